set_option maxRecDepth 8000 in
theorem yt208_l19 {sc : xSc} {n : Nat × Nat} {m : wm} {c : Int} (hc : 0 ≤ c ∧ c ≤ 1000000) (q : Int) (x : Int) (y : Int) (hG : zB c m) (h0 : 0 ≤ q ∧ q ≤ 49 ∧ 0 ≤ x ∧ x ≤ 104 ∧ 0 ≤ y ∧ y ≤ 104) : ∀ (d : Nat), ∀ (a : Int) (b : Int) (k : Int), (256 - k).toNat = d → (0 ≤ a ∧ a ≤ 255 ∧ 0 ≤ b ∧ b ≤ 255 ∧ 1 ≤ k ∧ k ≤ 256) → (a = m.1 56 0 (104 * q + x).toNat ∧ b = m.1 56 0 (104 * q + y).toNat) → (∀ j : Nat, (j : Int) < k - 1 → (fun a : Int => m.1 56 0 (104 * q + a).toNat) (x + 1 + (j : Int)) = (fun a : Int => m.1 56 0 (104 * q + a).toNat) (y + 1 + (j : Int))) →  wW (zK sc) zM208 19 [(0, .inr (.inr (.inl (some (34, 0))))), (1, .inl q), (2, .inl x), (3, .inl y), (4, .inl a), (5, .inl b), (6, .inl k)] [] n m (wr (fun vv n1 m1 => ∃ r : Int, vv = some (.inl r) ∧ n = n1 ∧ m = m1 ∧ ((r = 1 ∧ zBw (fun a : Int => m.1 56 0 (104 * q + a).toNat) x y) ∨ (r = 0 ∧ ¬ zBw (fun a : Int => m.1 56 0 (104 * q + a).toNat) x y)))) := by
  intro d
  induction d using Nat.strongRecOn with
  | ind d ih =>
    intro a b k hd hi hab he
    refine ww_go 2 (pc' := 23) (L' := [(0, .inr (.inr (.inl (some (34, 0))))), (1, .inl q), (2, .inl x), (3, .inl y), (4, .inl a), (5, .inl b), (6, .inl k)]) (st' := [.inl a, .inl k]) (m' := m) (o := none) rfl trivial ?_
    refine ww_ic (t := 87) rfl rfl (by omega) (fun (h1 : a < k) => ?_) (fun (h1 : ¬ (a < k)) => ?_)
    · show wW (zK sc) zM208 87 [(0, .inr (.inr (.inl (some (34, 0))))), (1, .inl q), (2, .inl x), (3, .inl y), (4, .inl a), (5, .inl b), (6, .inl k)] [] _ _ _
      refine ww_go 2 (pc' := 91) (L' := [(0, .inr (.inr (.inl (some (34, 0))))), (1, .inl q), (2, .inl x), (3, .inl y), (4, .inl a), (5, .inl b), (6, .inl k)]) (st' := [.inl b, .inl a]) (m' := m) (o := none) rfl trivial ?_
      refine ww_ic (t := 98) rfl rfl (by omega) (fun (h2 : b ≤ a) => ?_) (fun (h2 : ¬ (b ≤ a)) => ?_)
      · show wW (zK sc) zM208 98 [(0, .inr (.inr (.inl (some (34, 0))))), (1, .inl q), (2, .inl x), (3, .inl y), (4, .inl a), (5, .inl b), (6, .inl k)] [] _ _ _
        refine ww_go 1 (pc' := 99) (L' := [(0, .inr (.inr (.inl (some (34, 0))))), (1, .inl q), (2, .inl x), (3, .inl y), (4, .inl a), (5, .inl b), (6, .inl k)]) (st' := [.inl 0]) (m' := m) (o := none) rfl trivial ?_
        exact ww_rB rfl rfl (by omega) ⟨_, rfl, rfl, rfl, by exact Or.inr ⟨rfl, zBw_n (zBw_e (b := (fun a : Int => m.1 56 0 (104 * q + a).toNat)) (x := x) (y := y) (k := k) (show m.1 56 0 (104 * q + x).toNat < k ∨ m.1 56 0 (104 * q + y).toNat < k from by omega) he) (show ¬ (m.1 56 0 (104 * q + x).toNat - m.1 56 0 (104 * q + y).toNat < 0) from by omega)⟩⟩
      · show wW (zK sc) zM208 94 [(0, .inr (.inr (.inl (some (34, 0))))), (1, .inl q), (2, .inl x), (3, .inl y), (4, .inl a), (5, .inl b), (6, .inl k)] [] _ _ _
        refine ww_go 2 (pc' := 99) (L' := [(0, .inr (.inr (.inl (some (34, 0))))), (1, .inl q), (2, .inl x), (3, .inl y), (4, .inl a), (5, .inl b), (6, .inl k)]) (st' := [.inl 1]) (m' := m) (o := none) rfl trivial ?_
        exact ww_rB rfl rfl (by omega) ⟨_, rfl, rfl, rfl, by exact Or.inl ⟨rfl, zBw_y (zBw_e (b := (fun a : Int => m.1 56 0 (104 * q + a).toNat)) (x := x) (y := y) (k := k) (show m.1 56 0 (104 * q + x).toNat < k ∨ m.1 56 0 (104 * q + y).toNat < k from by omega) he) (show m.1 56 0 (104 * q + x).toNat - m.1 56 0 (104 * q + y).toNat < 0 from by omega)⟩⟩
    · show wW (zK sc) zM208 26 [(0, .inr (.inr (.inl (some (34, 0))))), (1, .inl q), (2, .inl x), (3, .inl y), (4, .inl a), (5, .inl b), (6, .inl k)] [] _ _ _
      refine ww_go 2 (pc' := 30) (L' := [(0, .inr (.inr (.inl (some (34, 0))))), (1, .inl q), (2, .inl x), (3, .inl y), (4, .inl a), (5, .inl b), (6, .inl k)]) (st' := [.inl b, .inl k]) (m' := m) (o := none) rfl trivial ?_
      refine ww_ic (t := 87) rfl rfl (by omega) (fun (h3 : b < k) => ?_) (fun (h3 : ¬ (b < k)) => ?_)
      · show wW (zK sc) zM208 87 [(0, .inr (.inr (.inl (some (34, 0))))), (1, .inl q), (2, .inl x), (3, .inl y), (4, .inl a), (5, .inl b), (6, .inl k)] [] _ _ _
        refine ww_go 2 (pc' := 91) (L' := [(0, .inr (.inr (.inl (some (34, 0))))), (1, .inl q), (2, .inl x), (3, .inl y), (4, .inl a), (5, .inl b), (6, .inl k)]) (st' := [.inl b, .inl a]) (m' := m) (o := none) rfl trivial ?_
        refine ww_ic (t := 98) rfl rfl (by omega) (fun (h4 : b ≤ a) => ?_) (fun (h4 : ¬ (b ≤ a)) => ?_)
        · show wW (zK sc) zM208 98 [(0, .inr (.inr (.inl (some (34, 0))))), (1, .inl q), (2, .inl x), (3, .inl y), (4, .inl a), (5, .inl b), (6, .inl k)] [] _ _ _
          refine ww_go 1 (pc' := 99) (L' := [(0, .inr (.inr (.inl (some (34, 0))))), (1, .inl q), (2, .inl x), (3, .inl y), (4, .inl a), (5, .inl b), (6, .inl k)]) (st' := [.inl 0]) (m' := m) (o := none) rfl trivial ?_
          exact ww_rB rfl rfl (by omega) ⟨_, rfl, rfl, rfl, by exact Or.inr ⟨rfl, zBw_n (zBw_e (b := (fun a : Int => m.1 56 0 (104 * q + a).toNat)) (x := x) (y := y) (k := k) (show m.1 56 0 (104 * q + x).toNat < k ∨ m.1 56 0 (104 * q + y).toNat < k from by omega) he) (show ¬ (m.1 56 0 (104 * q + x).toNat - m.1 56 0 (104 * q + y).toNat < 0) from by omega)⟩⟩
        · show wW (zK sc) zM208 94 [(0, .inr (.inr (.inl (some (34, 0))))), (1, .inl q), (2, .inl x), (3, .inl y), (4, .inl a), (5, .inl b), (6, .inl k)] [] _ _ _
          refine ww_go 2 (pc' := 99) (L' := [(0, .inr (.inr (.inl (some (34, 0))))), (1, .inl q), (2, .inl x), (3, .inl y), (4, .inl a), (5, .inl b), (6, .inl k)]) (st' := [.inl 1]) (m' := m) (o := none) rfl trivial ?_
          exact ww_rB rfl rfl (by omega) ⟨_, rfl, rfl, rfl, by exact Or.inl ⟨rfl, zBw_y (zBw_e (b := (fun a : Int => m.1 56 0 (104 * q + a).toNat)) (x := x) (y := y) (k := k) (show m.1 56 0 (104 * q + x).toNat < k ∨ m.1 56 0 (104 * q + y).toNat < k from by omega) he) (show m.1 56 0 (104 * q + x).toNat - m.1 56 0 (104 * q + y).toNat < 0 from by omega)⟩⟩
      · show wW (zK sc) zM208 33 [(0, .inr (.inr (.inl (some (34, 0))))), (1, .inl q), (2, .inl x), (3, .inl y), (4, .inl a), (5, .inl b), (6, .inl k)] [] _ _ _
        refine ww_go 5 (pc' := 39) (L' := [(0, .inr (.inr (.inl (some (34, 0))))), (1, .inl q), (2, .inl x), (3, .inl y), (4, .inl a), (5, .inl b), (6, .inl k)]) (st' := [.inl (x + k), .inl q, .inr (.inr (.inl (some (34, 0))))]) (m' := m) (o := none) rfl trivial ?_
        refine ww_call (vs := [.inr (.inr (.inl (some (34, 0)))), .inl q, .inl (x + k)]) (r := []) (p := 0 < 1) rfl rfl rfl rfl (show 0 < 1 from by omega) (zs185 (c := c) (by omega) q (x + k) hG (by omega)) ?_
        rintro _ _ _ ⟨r5, rfl, rfl, rfl, hr6⟩
        show wW (zK sc) zM208 42 [(0, .inr (.inr (.inl (some (34, 0))))), (1, .inl q), (2, .inl x), (3, .inl y), (4, .inl a), (5, .inl b), (6, .inl k)] [.inl r5] _ _ _
        refine ww_go 5 (pc' := 48) (L' := [(0, .inr (.inr (.inl (some (34, 0))))), (1, .inl q), (2, .inl x), (3, .inl y), (4, .inl a), (5, .inl b), (6, .inl k)]) (st' := [.inl (y + k), .inl q, .inr (.inr (.inl (some (34, 0)))), .inl r5]) (m' := m) (o := none) rfl trivial ?_
        refine ww_call (vs := [.inr (.inr (.inl (some (34, 0)))), .inl q, .inl (y + k)]) (r := [.inl r5]) (p := 0 < 1) rfl rfl rfl rfl (show 0 < 1 from by omega) (zs185 (c := c) (by omega) q (y + k) hG (by omega)) ?_
        rintro _ _ _ ⟨r7, rfl, rfl, rfl, hr8⟩
        show wW (zK sc) zM208 51 [(0, .inr (.inr (.inl (some (34, 0))))), (1, .inl q), (2, .inl x), (3, .inl y), (4, .inl a), (5, .inl b), (6, .inl k)] [.inl r7, .inl r5] _ _ _
        refine ww_ic (t := 81) rfl rfl (by omega) (fun (h9 : r5 = r7) => ?_) (fun (h9 : ¬ (r5 = r7)) => ?_)
        · show wW (zK sc) zM208 81 [(0, .inr (.inr (.inl (some (34, 0))))), (1, .inl q), (2, .inl x), (3, .inl y), (4, .inl a), (5, .inl b), (6, .inl k)] [] _ _ _
          refine ww_go 2 (pc' := 19) (L' := [(6, .inl (k + 1)), (0, .inr (.inr (.inl (some (34, 0))))), (1, .inl q), (2, .inl x), (3, .inl y), (4, .inl a), (5, .inl b)]) (st' := []) (m' := m) (o := none) rfl trivial ?_
          refine ww_sub (L := [(0, .inr (.inr (.inl (some (34, 0))))), (1, .inl q), (2, .inl x), (3, .inl y), (4, .inl a), (5, .inl b), (6, .inl (k + 1))]) ⟨rfl, rfl, rfl, rfl, rfl, rfl, rfl, trivial⟩ rfl rfl ?_
          exact (ih _ (by omega)) a b (k + 1) rfl (by omega) (by exact hab) (by exact fun j hj => (Decidable.em ((j : Int) < k - 1)).elim (fun z => he j z) (fun z => (by rw [show x + 1 + (j : Int) = x + k from by omega, show y + 1 + (j : Int) = y + k from by omega]; show m.1 56 0 (104 * q + (x + k)).toNat = m.1 56 0 (104 * q + (y + k)).toNat; rw [← hr6.1, ← hr8.1]; omega)))
        · show wW (zK sc) zM208 54 [(0, .inr (.inr (.inl (some (34, 0))))), (1, .inl q), (2, .inl x), (3, .inl y), (4, .inl a), (5, .inl b), (6, .inl k)] [] _ _ _
          refine ww_go 5 (pc' := 60) (L' := [(0, .inr (.inr (.inl (some (34, 0))))), (1, .inl q), (2, .inl x), (3, .inl y), (4, .inl a), (5, .inl b), (6, .inl k)]) (st' := [.inl (x + k), .inl q, .inr (.inr (.inl (some (34, 0))))]) (m' := m) (o := none) rfl trivial ?_
          refine ww_call (vs := [.inr (.inr (.inl (some (34, 0)))), .inl q, .inl (x + k)]) (r := []) (p := 0 < 1) rfl rfl rfl rfl (show 0 < 1 from by omega) (zs185 (c := c) (by omega) q (x + k) hG (by omega)) ?_
          rintro _ _ _ ⟨r10, rfl, rfl, rfl, hr11⟩
          show wW (zK sc) zM208 63 [(0, .inr (.inr (.inl (some (34, 0))))), (1, .inl q), (2, .inl x), (3, .inl y), (4, .inl a), (5, .inl b), (6, .inl k)] [.inl r10] _ _ _
          refine ww_go 5 (pc' := 69) (L' := [(0, .inr (.inr (.inl (some (34, 0))))), (1, .inl q), (2, .inl x), (3, .inl y), (4, .inl a), (5, .inl b), (6, .inl k)]) (st' := [.inl (y + k), .inl q, .inr (.inr (.inl (some (34, 0)))), .inl r10]) (m' := m) (o := none) rfl trivial ?_
          refine ww_call (vs := [.inr (.inr (.inl (some (34, 0)))), .inl q, .inl (y + k)]) (r := [.inl r10]) (p := 0 < 1) rfl rfl rfl rfl (show 0 < 1 from by omega) (zs185 (c := c) (by omega) q (y + k) hG (by omega)) ?_
          rintro _ _ _ ⟨r12, rfl, rfl, rfl, hr13⟩
          show wW (zK sc) zM208 72 [(0, .inr (.inr (.inl (some (34, 0))))), (1, .inl q), (2, .inl x), (3, .inl y), (4, .inl a), (5, .inl b), (6, .inl k)] [.inl r12, .inl r10] _ _ _
          refine ww_ic (t := 79) rfl rfl (by omega) (fun (h14 : r12 ≤ r10) => ?_) (fun (h14 : ¬ (r12 ≤ r10)) => ?_)
          · show wW (zK sc) zM208 79 [(0, .inr (.inr (.inl (some (34, 0))))), (1, .inl q), (2, .inl x), (3, .inl y), (4, .inl a), (5, .inl b), (6, .inl k)] [] _ _ _
            refine ww_go 1 (pc' := 80) (L' := [(0, .inr (.inr (.inl (some (34, 0))))), (1, .inl q), (2, .inl x), (3, .inl y), (4, .inl a), (5, .inl b), (6, .inl k)]) (st' := [.inl 0]) (m' := m) (o := none) rfl trivial ?_
            exact ww_rB rfl rfl (by omega) ⟨_, rfl, rfl, rfl, by exact Or.inr ⟨rfl, zBw_n (zBw_d (b := (fun a : Int => m.1 56 0 (104 * q + a).toNat)) (x := x) (y := y) (k := k) (by omega) (show k ≤ m.1 56 0 (104 * q + x).toNat from by omega) (show k ≤ m.1 56 0 (104 * q + y).toNat from by omega) he (show m.1 56 0 (104 * q + (x + k)).toNat ≠ m.1 56 0 (104 * q + (y + k)).toNat from by omega)) (show ¬ (m.1 56 0 (104 * q + (x + k)).toNat - m.1 56 0 (104 * q + (y + k)).toNat < 0) from by omega)⟩⟩
          · show wW (zK sc) zM208 75 [(0, .inr (.inr (.inl (some (34, 0))))), (1, .inl q), (2, .inl x), (3, .inl y), (4, .inl a), (5, .inl b), (6, .inl k)] [] _ _ _
            refine ww_go 2 (pc' := 80) (L' := [(0, .inr (.inr (.inl (some (34, 0))))), (1, .inl q), (2, .inl x), (3, .inl y), (4, .inl a), (5, .inl b), (6, .inl k)]) (st' := [.inl 1]) (m' := m) (o := none) rfl trivial ?_
            exact ww_rB rfl rfl (by omega) ⟨_, rfl, rfl, rfl, by exact Or.inl ⟨rfl, zBw_y (zBw_d (b := (fun a : Int => m.1 56 0 (104 * q + a).toNat)) (x := x) (y := y) (k := k) (by omega) (show k ≤ m.1 56 0 (104 * q + x).toNat from by omega) (show k ≤ m.1 56 0 (104 * q + y).toNat from by omega) he (show m.1 56 0 (104 * q + (x + k)).toNat ≠ m.1 56 0 (104 * q + (y + k)).toNat from by omega)) (show m.1 56 0 (104 * q + (x + k)).toNat - m.1 56 0 (104 * q + (y + k)).toNat < 0 from by omega)⟩⟩
set_option maxRecDepth 8000 in
/-- Mo.isBelow -/
theorem yt208 {sc : xSc} {n : Nat × Nat} {m : wm} {c : Int} (hc : 0 ≤ c ∧ c ≤ 1000000) (q : Int) (x : Int) (y : Int) (hG : zB c m) (h0 : 0 ≤ q ∧ q ≤ 49 ∧ 0 ≤ x ∧ x ≤ 104 ∧ 0 ≤ y ∧ y ≤ 104) : wX (zK sc) 208 [.inr (.inr (.inl (some (34, 0)))), .inl q, .inl x, .inl y] n m (wr (fun vv n1 m1 => ∃ r : Int, vv = some (.inl r) ∧ n = n1 ∧ m = m1 ∧ ((r = 1 ∧ zBw (fun a : Int => m.1 56 0 (104 * q + a).toNat) x y) ∨ (r = 0 ∧ ¬ zBw (fun a : Int => m.1 56 0 (104 * q + a).toNat) x y)))) := by
  refine wX_of (N := zM208) rfl (Nat.le_of_ble_eq_true rfl) ?_
  show wW (zK sc) zM208 0 [(0, .inr (.inr (.inl (some (34, 0))))), (1, .inl q), (2, .inl x), (3, .inl y)] [] n m _
  refine ww_go 3 (pc' := 3) (L' := [(0, .inr (.inr (.inl (some (34, 0))))), (1, .inl q), (2, .inl x), (3, .inl y)]) (st' := [.inl x, .inl q, .inr (.inr (.inl (some (34, 0))))]) (m' := m) (o := none) rfl trivial ?_
  refine ww_call (vs := [.inr (.inr (.inl (some (34, 0)))), .inl q, .inl x]) (r := []) (p := 0 < 1) rfl rfl rfl rfl (show 0 < 1 from by omega) (zs185 (c := c) (by omega) q x hG (by omega)) ?_
  rintro _ _ _ ⟨r1, rfl, rfl, rfl, hr2⟩
  show wW (zK sc) zM208 6 [(0, .inr (.inr (.inl (some (34, 0))))), (1, .inl q), (2, .inl x), (3, .inl y)] [.inl r1] _ _ _
  refine ww_go 4 (pc' := 11) (L' := [(4, .inl r1), (0, .inr (.inr (.inl (some (34, 0))))), (1, .inl q), (2, .inl x), (3, .inl y)]) (st' := [.inl y, .inl q, .inr (.inr (.inl (some (34, 0))))]) (m' := m) (o := none) rfl trivial ?_
  refine ww_call (vs := [.inr (.inr (.inl (some (34, 0)))), .inl q, .inl y]) (r := []) (p := 0 < 1) rfl rfl rfl rfl (show 0 < 1 from by omega) (zs185 (c := c) (by omega) q y hG (by omega)) ?_
  rintro _ _ _ ⟨r3, rfl, rfl, rfl, hr4⟩
  show wW (zK sc) zM208 14 [(4, .inl r1), (0, .inr (.inr (.inl (some (34, 0))))), (1, .inl q), (2, .inl x), (3, .inl y)] [.inl r3] _ _ _
  refine ww_go 3 (pc' := 19) (L' := [(6, .inl 1), (5, .inl r3), (4, .inl r1), (0, .inr (.inr (.inl (some (34, 0))))), (1, .inl q), (2, .inl x), (3, .inl y)]) (st' := []) (m' := m) (o := none) rfl trivial ?_
  refine ww_sub (L := [(0, .inr (.inr (.inl (some (34, 0))))), (1, .inl q), (2, .inl x), (3, .inl y), (4, .inl r1), (5, .inl r3), (6, .inl 1)]) ⟨rfl, rfl, rfl, rfl, rfl, rfl, rfl, trivial⟩ rfl rfl ?_
  exact (yt208_l19 hc q x y hG h0 _) r1 r3 1 rfl (by omega) (by exact ⟨hr2.1, hr4.1⟩) (by exact fun j hj => absurd hj (by omega))
set_option maxRecDepth 8000 in
theorem yt211_l62 {sc : xSc} {n : Nat × Nat} {m : wm} {c : Int} (hc : 0 ≤ c ∧ c ≤ 1000000) (f : Int) (hG : zB c m) (h0 : 0 ≤ f ∧ f ≤ 7) : ∀ (d : Nat), (∀ (a : Int) (l : Int) (i : Int), (6 - i).toNat * 100 + 99 = d → (0 ≤ i ∧ i ≤ m.1 56 0 ((104 * (7 * f) + 2).toNat) ∧ m.1 56 0 ((104 * (7 * f) + 2).toNat) ≤ 6 ∧ 3 ≤ a ∧ a ≤ 104 ∧ 0 ≤ l ∧ l ≤ 104 ∧ 3 ≤ m.1 54 0 ((7 * f).toNat) ∧ m.1 50 0 f.toNat = 256 * (zby m f) 0 + (zby m f) 1) → (a = zat (zby m f) i.toNat) → (zMF i (zby m f)) → (i = 0 ∨ l = zat (zby m f) (i.toNat - 1)) → (∀ j : Nat, (j : Int) < i → zMj (zby m f) (m.1 54 0 ((7 * f).toNat)) j) →  wW (zK sc) zM211 62 [(0, .inr (.inr (.inl (some (34, 0))))), (1, .inl f), (2, .inl (7 * f)), (3, .inl a), (4, .inl l), (5, .inl i)] [] n m (wr (fun vv n1 m1 => ∃ r : Int, vv = some (.inl r) ∧ n = n1 ∧ m = m1 ∧ ((r = 1 ∧ (zMF (m.1 56 0 ((104 * (7 * f) + 2).toNat)) (zby m f) ∧ m.1 56 0 ((104 * (7 * f) + 2).toNat) ≤ 6 ∧ 3 ≤ m.1 54 0 ((7 * f).toNat)) ∧ zMan (m.1 54 0 ((7 * f).toNat)) (m.1 50 0 f.toNat) (zby m f)) ∨ (r = 0 ∧ ¬ zMan (m.1 54 0 ((7 * f).toNat)) (m.1 50 0 f.toNat) (zby m f)))))) ∧ (∀ (a : Int) (l : Int) (i : Int) (x : Int) (k : Int), (6 - i).toNat * 100 + (7 - k).toNat = d → (0 ≤ i ∧ i ≤ m.1 56 0 ((104 * (7 * f) + 2).toNat) ∧ m.1 56 0 ((104 * (7 * f) + 2).toNat) ≤ 6 ∧ 3 ≤ a ∧ a ≤ 104 ∧ 0 ≤ l ∧ l ≤ 104 ∧ 3 ≤ m.1 54 0 ((7 * f).toNat) ∧ m.1 50 0 f.toNat = 256 * (zby m f) 0 + (zby m f) 1 ∧ i < m.1 56 0 ((104 * (7 * f) + 2).toNat) ∧ 1 ≤ x ∧ x ≤ 6 ∧ a + 10 + x ≤ m.1 54 0 ((7 * f).toNat) ∧ m.1 56 0 (104 * (7 * f) + (a + 1 + x)).toNat ≤ 96 ∧ 1 ≤ k ∧ k ≤ 7) → (a = zat (zby m f) i.toNat) → (zMF i (zby m f)) → (x = m.1 56 0 (104 * (7 * f) + a).toNat) → (i = 0 ∨ l = zat (zby m f) (i.toNat - 1)) → (∀ j : Nat, (j : Int) < i → zMj (zby m f) (m.1 54 0 ((7 * f).toNat)) j) → (∀ q : Nat, (q : Int) < k - 1 → 33 ≤ zby m f (a + 1 + (q : Int)) ∧ zby m f (a + 1 + (q : Int)) ≤ 126) →  wW (zK sc) zM211 141 [(0, .inr (.inr (.inl (some (34, 0))))), (1, .inl f), (2, .inl (7 * f)), (3, .inl a), (4, .inl l), (5, .inl i), (6, .inl x), (7, .inl k)] [] n m (wr (fun vv n1 m1 => ∃ r : Int, vv = some (.inl r) ∧ n = n1 ∧ m = m1 ∧ ((r = 1 ∧ (zMF (m.1 56 0 ((104 * (7 * f) + 2).toNat)) (zby m f) ∧ m.1 56 0 ((104 * (7 * f) + 2).toNat) ≤ 6 ∧ 3 ≤ m.1 54 0 ((7 * f).toNat)) ∧ zMan (m.1 54 0 ((7 * f).toNat)) (m.1 50 0 f.toNat) (zby m f)) ∨ (r = 0 ∧ ¬ zMan (m.1 54 0 ((7 * f).toNat)) (m.1 50 0 f.toNat) (zby m f)))))) := by
  intro d
  induction d using Nat.strongRecOn with
  | ind d ih =>
    refine ⟨?_, ?_⟩
    · intro a l i hd hi ha hM hl hJ
      have bz : -1 ≤ m.1 54 0 ((7 * f).toNat) ∧ m.1 54 0 ((7 * f).toNat) ≤ 104 := hG.1 54 _ rfl _ _
      have bb : 0 ≤ m.1 56 0 ((104 * (7 * f) + 2).toNat) ∧ m.1 56 0 ((104 * (7 * f) + 2).toNat) ≤ 255 := hG.1 56 _ rfl _ _
      have zb0 : (zby m f) 0 = m.1 56 0 (104 * (7 * f) + 0).toNat := (zby_a 0).symm
      have zb1 : (zby m f) 1 = m.1 56 0 (104 * (7 * f) + 1).toNat := (zby_a 1).symm
      have zb2 : (zby m f) 2 = m.1 56 0 ((104 * (7 * f) + 2).toNat) := (zby_a 2).symm
      refine ww_go 4 (pc' := 67) (L' := [(0, .inr (.inr (.inl (some (34, 0))))), (1, .inl f), (2, .inl (7 * f)), (3, .inl a), (4, .inl l), (5, .inl i)]) (st' := [.inl 2, .inl (7 * f), .inr (.inr (.inl (some (34, 0)))), .inl i]) (m' := m) (o := none) rfl trivial ?_
      refine ww_call (vs := [.inr (.inr (.inl (some (34, 0)))), .inl (7 * f), .inl 2]) (r := [.inl i]) (p := 0 < 1) rfl rfl rfl rfl (show 0 < 1 from by omega) (zs185 (c := c) (by omega) (7 * f) 2 hG (by omega)) ?_
      rintro _ _ _ ⟨r1, rfl, rfl, rfl, hr2⟩
      show wW (zK sc) zM211 70 [(0, .inr (.inr (.inl (some (34, 0))))), (1, .inl f), (2, .inl (7 * f)), (3, .inl a), (4, .inl l), (5, .inl i)] [.inl r1, .inl i] _ _ _
      refine ww_ic (t := 210) rfl rfl (by omega) (fun (h3 : r1 ≤ i) => ?_) (fun (h3 : ¬ (r1 ≤ i)) => ?_)
      · show wW (zK sc) zM211 210 [(0, .inr (.inr (.inl (some (34, 0))))), (1, .inl f), (2, .inl (7 * f)), (3, .inl a), (4, .inl l), (5, .inl i)] [] _ _ _
        have b4 : (-1) ≤ m.1 54 0 ((7 * f).toNat) ∧ m.1 54 0 ((7 * f).toNat) ≤ 104 := hG.1 54 _ rfl _ _
        refine ww_go 5 (pc' := 217) (L' := [(0, .inr (.inr (.inl (some (34, 0))))), (1, .inl f), (2, .inl (7 * f)), (3, .inl a), (4, .inl l), (5, .inl i)]) (st' := [.inl (m.1 54 0 ((7 * f).toNat)), .inl a]) (m' := m) (o := some ((0 < 1) ∧ (0 < 1 ∧ 0 ≤ 7 * f ∧ 7 * f < ((56 : Nat) : Int)))) rfl (show (0 < 1) ∧ (0 < 1 ∧ 0 ≤ 7 * f ∧ 7 * f < ((56 : Nat) : Int)) from by omega) ?_
        refine ww_ic (t := 224) rfl rfl (by omega) (fun (h5 : a ≠ m.1 54 0 ((7 * f).toNat)) => ?_) (fun (h5 : ¬ (a ≠ m.1 54 0 ((7 * f).toNat))) => ?_)
        · show wW (zK sc) zM211 224 [(0, .inr (.inr (.inl (some (34, 0))))), (1, .inl f), (2, .inl (7 * f)), (3, .inl a), (4, .inl l), (5, .inl i)] [] _ _ _
          refine ww_go 1 (pc' := 225) (L' := [(0, .inr (.inr (.inl (some (34, 0))))), (1, .inl f), (2, .inl (7 * f)), (3, .inl a), (4, .inl l), (5, .inl i)]) (st' := [.inl 0]) (m' := m) (o := none) rfl trivial ?_
          exact ww_rB rfl rfl (by omega) ⟨_, rfl, rfl, rfl, by first | exact Or.inr ⟨rfl, fun zm => (by have z9 := zm.2.2.2.2; rw [show ((zby m f) 2).toNat = i.toNat from by omega, ← ha] at z9; omega)⟩ | exact Or.inr ⟨rfl, fun zm => (by have zj9 := (zm.2.2.2.1 i.toNat (by omega)); unfold zMj at zj9; rw [← ha] at zj9; obtain ⟨z1, z2, z3, z4, -, -⟩ := zj9; omega)⟩⟩
        · show wW (zK sc) zM211 220 [(0, .inr (.inr (.inl (some (34, 0))))), (1, .inl f), (2, .inl (7 * f)), (3, .inl a), (4, .inl l), (5, .inl i)] [] _ _ _
          refine ww_go 2 (pc' := 225) (L' := [(0, .inr (.inr (.inl (some (34, 0))))), (1, .inl f), (2, .inl (7 * f)), (3, .inl a), (4, .inl l), (5, .inl i)]) (st' := [.inl 1]) (m' := m) (o := none) rfl trivial ?_
          exact ww_rB rfl rfl (by omega) ⟨_, rfl, rfl, rfl, by exact Or.inl ⟨rfl, ⟨(by rw [show m.1 56 0 ((104 * (7 * f) + 2).toNat) = i by omega]; exact hM), by omega, by omega⟩, by omega, by omega, by omega, (fun j hj => hJ j (by omega)), (by rw [show ((zby m f) 2).toNat = i.toNat from by omega, ← ha]; omega)⟩⟩
      · show wW (zK sc) zM211 73 [(0, .inr (.inr (.inl (some (34, 0))))), (1, .inl f), (2, .inl (7 * f)), (3, .inl a), (4, .inl l), (5, .inl i)] [] _ _ _
        have b6 : (-1) ≤ m.1 54 0 ((7 * f).toNat) ∧ m.1 54 0 ((7 * f).toNat) ≤ 104 := hG.1 54 _ rfl _ _
        refine ww_go 5 (pc' := 80) (L' := [(0, .inr (.inr (.inl (some (34, 0))))), (1, .inl f), (2, .inl (7 * f)), (3, .inl a), (4, .inl l), (5, .inl i)]) (st' := [.inl (m.1 54 0 ((7 * f).toNat)), .inl a]) (m' := m) (o := some ((0 < 1) ∧ (0 < 1 ∧ 0 ≤ 7 * f ∧ 7 * f < ((56 : Nat) : Int)))) rfl (show (0 < 1) ∧ (0 < 1 ∧ 0 ≤ 7 * f ∧ 7 * f < ((56 : Nat) : Int)) from by omega) ?_
        refine ww_ic (t := 85) rfl rfl (by omega) (fun (h7 : a < m.1 54 0 ((7 * f).toNat)) => ?_) (fun (h7 : ¬ (a < m.1 54 0 ((7 * f).toNat))) => ?_)
        · show wW (zK sc) zM211 85 [(0, .inr (.inr (.inl (some (34, 0))))), (1, .inl f), (2, .inl (7 * f)), (3, .inl a), (4, .inl l), (5, .inl i)] [] _ _ _
          refine ww_go 3 (pc' := 88) (L' := [(0, .inr (.inr (.inl (some (34, 0))))), (1, .inl f), (2, .inl (7 * f)), (3, .inl a), (4, .inl l), (5, .inl i)]) (st' := [.inl a, .inl (7 * f), .inr (.inr (.inl (some (34, 0))))]) (m' := m) (o := none) rfl trivial ?_
          refine ww_call (vs := [.inr (.inr (.inl (some (34, 0)))), .inl (7 * f), .inl a]) (r := []) (p := 0 < 1) rfl rfl rfl rfl (show 0 < 1 from by omega) (zs185 (c := c) (by omega) (7 * f) a hG (by omega)) ?_
          rintro _ _ _ ⟨r8, rfl, rfl, rfl, hr9⟩
          show wW (zK sc) zM211 91 [(0, .inr (.inr (.inl (some (34, 0))))), (1, .inl f), (2, .inl (7 * f)), (3, .inl a), (4, .inl l), (5, .inl i)] [.inl r8] _ _ _
          refine ww_go 4 (pc' := 98) (L' := [(6, .inl r8), (0, .inr (.inr (.inl (some (34, 0))))), (1, .inl f), (2, .inl (7 * f)), (3, .inl a), (4, .inl l), (5, .inl i)]) (st' := [.inl 6, .inl 1, .inl r8]) (m' := m) (o := none) rfl trivial ?_
          refine ww_call (vs := [.inl r8, .inl 1, .inl 6]) (r := []) (p := True) rfl rfl rfl rfl trivial (zs207 r8 1 6 (by omega)) ?_
          rintro _ _ _ ⟨r10, rfl, rfl, rfl, hr11⟩
          show wW (zK sc) zM211 101 [(6, .inl r8), (0, .inr (.inr (.inl (some (34, 0))))), (1, .inl f), (2, .inl (7 * f)), (3, .inl a), (4, .inl l), (5, .inl i)] [.inl r10] _ _ _
          refine ww_if (t := 136) rfl rfl (by omega) (fun (h12 : r10 = 0) => ?_) (fun (h12 : ¬ (r10 = 0)) => ?_)
          · show wW (zK sc) zM211 136 [(6, .inl r8), (0, .inr (.inr (.inl (some (34, 0))))), (1, .inl f), (2, .inl (7 * f)), (3, .inl a), (4, .inl l), (5, .inl i)] [] _ _ _
            refine ww_go 1 (pc' := 137) (L' := [(6, .inl r8), (0, .inr (.inr (.inl (some (34, 0))))), (1, .inl f), (2, .inl (7 * f)), (3, .inl a), (4, .inl l), (5, .inl i)]) (st' := [.inl 0]) (m' := m) (o := none) rfl trivial ?_
            exact ww_rB rfl rfl (by omega) ⟨_, rfl, rfl, rfl, by first | exact Or.inr ⟨rfl, fun zm => (by have y1 : (zby m f) a = r8 := ((zby_a a).symm).trans (hr9.1).symm; have zj9 := (zm.2.2.2.1 i.toNat (by omega)); unfold zMj at zj9; rw [← ha] at zj9; obtain ⟨z1, z2, z3, z4, -, -⟩ := zj9; omega)⟩ | exact Or.inr ⟨rfl, fun zm => (by have z9 := zm.2.2.2.2; rw [show ((zby m f) 2).toNat = i.toNat from by omega, ← ha] at z9; omega)⟩⟩
          · show wW (zK sc) zM211 104 [(6, .inl r8), (0, .inr (.inr (.inl (some (34, 0))))), (1, .inl f), (2, .inl (7 * f)), (3, .inl a), (4, .inl l), (5, .inl i)] [] _ _ _
            have b13 : (-1) ≤ m.1 54 0 ((7 * f).toNat) ∧ m.1 54 0 ((7 * f).toNat) ≤ 104 := hG.1 54 _ rfl _ _
            refine ww_go 9 (pc' := 117) (L' := [(6, .inl r8), (0, .inr (.inr (.inl (some (34, 0))))), (1, .inl f), (2, .inl (7 * f)), (3, .inl a), (4, .inl l), (5, .inl i)]) (st' := [.inl (m.1 54 0 ((7 * f).toNat)), .inl ((a + 10) + r8)]) (m' := m) (o := some ((0 < 1) ∧ (0 < 1 ∧ 0 ≤ 7 * f ∧ 7 * f < ((56 : Nat) : Int)))) rfl (show (0 < 1) ∧ (0 < 1 ∧ 0 ≤ 7 * f ∧ 7 * f < ((56 : Nat) : Int)) from by omega) ?_
            refine ww_ic (t := 136) rfl rfl (by omega) (fun (h14 : m.1 54 0 ((7 * f).toNat) < (a + 10) + r8) => ?_) (fun (h14 : ¬ (m.1 54 0 ((7 * f).toNat) < (a + 10) + r8)) => ?_)
            · show wW (zK sc) zM211 136 [(6, .inl r8), (0, .inr (.inr (.inl (some (34, 0))))), (1, .inl f), (2, .inl (7 * f)), (3, .inl a), (4, .inl l), (5, .inl i)] [] _ _ _
              refine ww_go 1 (pc' := 137) (L' := [(6, .inl r8), (0, .inr (.inr (.inl (some (34, 0))))), (1, .inl f), (2, .inl (7 * f)), (3, .inl a), (4, .inl l), (5, .inl i)]) (st' := [.inl 0]) (m' := m) (o := none) rfl trivial ?_
              exact ww_rB rfl rfl (by omega) ⟨_, rfl, rfl, rfl, by first | exact Or.inr ⟨rfl, fun zm => (by have y1 : (zby m f) a = r8 := ((zby_a a).symm).trans (hr9.1).symm; have zj9 := (zm.2.2.2.1 i.toNat (by omega)); unfold zMj at zj9; rw [← ha] at zj9; obtain ⟨z1, z2, z3, z4, -, -⟩ := zj9; omega)⟩ | exact Or.inr ⟨rfl, fun zm => (by have z9 := zm.2.2.2.2; rw [show ((zby m f) 2).toNat = i.toNat from by omega, ← ha] at z9; omega)⟩⟩
            · show wW (zK sc) zM211 120 [(6, .inl r8), (0, .inr (.inr (.inl (some (34, 0))))), (1, .inl f), (2, .inl (7 * f)), (3, .inl a), (4, .inl l), (5, .inl i)] [] _ _ _
              refine ww_go 7 (pc' := 128) (L' := [(6, .inl r8), (0, .inr (.inr (.inl (some (34, 0))))), (1, .inl f), (2, .inl (7 * f)), (3, .inl a), (4, .inl l), (5, .inl i)]) (st' := [.inl ((a + 1) + r8), .inl (7 * f), .inr (.inr (.inl (some (34, 0))))]) (m' := m) (o := none) rfl trivial ?_
              refine ww_call (vs := [.inr (.inr (.inl (some (34, 0)))), .inl (7 * f), .inl ((a + 1) + r8)]) (r := []) (p := 0 < 1) rfl rfl rfl rfl (show 0 < 1 from by omega) (zs185 (c := c) (by omega) (7 * f) ((a + 1) + r8) hG (by omega)) ?_
              rintro _ _ _ ⟨r15, rfl, rfl, rfl, hr16⟩
              show wW (zK sc) zM211 131 [(6, .inl r8), (0, .inr (.inr (.inl (some (34, 0))))), (1, .inl f), (2, .inl (7 * f)), (3, .inl a), (4, .inl l), (5, .inl i)] [.inl r15] _ _ _
              refine ww_go 1 (pc' := 133) (L' := [(6, .inl r8), (0, .inr (.inr (.inl (some (34, 0))))), (1, .inl f), (2, .inl (7 * f)), (3, .inl a), (4, .inl l), (5, .inl i)]) (st' := [.inl 96, .inl r15]) (m' := m) (o := none) rfl trivial ?_
              refine ww_ic (t := 138) rfl rfl (by omega) (fun (h17 : r15 ≤ 96) => ?_) (fun (h17 : ¬ (r15 ≤ 96)) => ?_)
              · show wW (zK sc) zM211 138 [(6, .inl r8), (0, .inr (.inr (.inl (some (34, 0))))), (1, .inl f), (2, .inl (7 * f)), (3, .inl a), (4, .inl l), (5, .inl i)] [] _ _ _
                refine ww_go 2 (pc' := 141) (L' := [(7, .inl 1), (6, .inl r8), (0, .inr (.inr (.inl (some (34, 0))))), (1, .inl f), (2, .inl (7 * f)), (3, .inl a), (4, .inl l), (5, .inl i)]) (st' := []) (m' := m) (o := none) rfl trivial ?_
                refine ww_sub (L := [(0, .inr (.inr (.inl (some (34, 0))))), (1, .inl f), (2, .inl (7 * f)), (3, .inl a), (4, .inl l), (5, .inl i), (6, .inl r8), (7, .inl 1)]) ⟨rfl, rfl, rfl, rfl, rfl, rfl, rfl, rfl, trivial⟩ rfl rfl ?_
                exact (ih _ (by omega)).2 a l i r8 1 rfl (by omega) (by exact ha) (by exact hM) (by exact (hr9).1) (by exact hl) (by exact hJ) (by exact fun q hq => absurd hq (by omega))
              · show wW (zK sc) zM211 136 [(6, .inl r8), (0, .inr (.inr (.inl (some (34, 0))))), (1, .inl f), (2, .inl (7 * f)), (3, .inl a), (4, .inl l), (5, .inl i)] [] _ _ _
                refine ww_go 1 (pc' := 137) (L' := [(6, .inl r8), (0, .inr (.inr (.inl (some (34, 0))))), (1, .inl f), (2, .inl (7 * f)), (3, .inl a), (4, .inl l), (5, .inl i)]) (st' := [.inl 0]) (m' := m) (o := none) rfl trivial ?_
                exact ww_rB rfl rfl (by omega) ⟨_, rfl, rfl, rfl, by first | exact Or.inr ⟨rfl, fun zm => (by have y1 : (zby m f) a = r8 := ((zby_a a).symm).trans (hr9.1).symm; have y2 : (zby m f) (a + 1 + (zby m f) a) = r15 := (by rw [y1, ← zby_a]; exact (hr16.1).symm); have zj9 := (zm.2.2.2.1 i.toNat (by omega)); unfold zMj at zj9; rw [← ha] at zj9; obtain ⟨z1, z2, z3, z4, -, -⟩ := zj9; omega)⟩ | exact Or.inr ⟨rfl, fun zm => (by have z9 := zm.2.2.2.2; rw [show ((zby m f) 2).toNat = i.toNat from by omega, ← ha] at z9; omega)⟩⟩
        · show wW (zK sc) zM211 83 [(0, .inr (.inr (.inl (some (34, 0))))), (1, .inl f), (2, .inl (7 * f)), (3, .inl a), (4, .inl l), (5, .inl i)] [] _ _ _
          refine ww_go 1 (pc' := 84) (L' := [(0, .inr (.inr (.inl (some (34, 0))))), (1, .inl f), (2, .inl (7 * f)), (3, .inl a), (4, .inl l), (5, .inl i)]) (st' := [.inl 0]) (m' := m) (o := none) rfl trivial ?_
          exact ww_rB rfl rfl (by omega) ⟨_, rfl, rfl, rfl, by first | exact Or.inr ⟨rfl, fun zm => (by have zj9 := (zm.2.2.2.1 i.toNat (by omega)); unfold zMj at zj9; rw [← ha] at zj9; obtain ⟨z1, z2, z3, z4, -, -⟩ := zj9; omega)⟩ | exact Or.inr ⟨rfl, fun zm => (by have z9 := zm.2.2.2.2; rw [show ((zby m f) 2).toNat = i.toNat from by omega, ← ha] at z9; omega)⟩⟩
    · intro a l i x k hd hi ha hM hn hl hJ hN
      have bz : -1 ≤ m.1 54 0 ((7 * f).toNat) ∧ m.1 54 0 ((7 * f).toNat) ≤ 104 := hG.1 54 _ rfl _ _
      have bb : 0 ≤ m.1 56 0 ((104 * (7 * f) + 2).toNat) ∧ m.1 56 0 ((104 * (7 * f) + 2).toNat) ≤ 255 := hG.1 56 _ rfl _ _
      have zb0 : (zby m f) 0 = m.1 56 0 (104 * (7 * f) + 0).toNat := (zby_a 0).symm
      have zb1 : (zby m f) 1 = m.1 56 0 (104 * (7 * f) + 1).toNat := (zby_a 1).symm
      have zb2 : (zby m f) 2 = m.1 56 0 ((104 * (7 * f) + 2).toNat) := (zby_a 2).symm
      refine ww_go 2 (pc' := 145) (L' := [(0, .inr (.inr (.inl (some (34, 0))))), (1, .inl f), (2, .inl (7 * f)), (3, .inl a), (4, .inl l), (5, .inl i), (6, .inl x), (7, .inl k)]) (st' := [.inl x, .inl k]) (m' := m) (o := none) rfl trivial ?_
      refine ww_ic (t := 175) rfl rfl (by omega) (fun (h1 : x < k) => ?_) (fun (h1 : ¬ (x < k)) => ?_)
      · show wW (zK sc) zM211 175 [(0, .inr (.inr (.inl (some (34, 0))))), (1, .inl f), (2, .inl (7 * f)), (3, .inl a), (4, .inl l), (5, .inl i), (6, .inl x), (7, .inl k)] [] _ _ _
        refine ww_go 1 (pc' := 177) (L' := [(0, .inr (.inr (.inl (some (34, 0))))), (1, .inl f), (2, .inl (7 * f)), (3, .inl a), (4, .inl l), (5, .inl i), (6, .inl x), (7, .inl k)]) (st' := [.inl i]) (m' := m) (o := none) rfl trivial ?_
        refine ww_if (t := 193) rfl rfl (by omega) (fun (h2 : i ≤ 0) => ?_) (fun (h2 : ¬ (i ≤ 0)) => ?_)
        · show wW (zK sc) zM211 193 [(0, .inr (.inr (.inl (some (34, 0))))), (1, .inl f), (2, .inl (7 * f)), (3, .inl a), (4, .inl l), (5, .inl i), (6, .inl x), (7, .inl k)] [] _ _ _
          refine ww_go 10 (pc' := 62) (L' := [(5, .inl (i + 1)), (3, .inl (a + (10 + x))), (4, .inl a), (0, .inr (.inr (.inl (some (34, 0))))), (1, .inl f), (2, .inl (7 * f)), (6, .inl x), (7, .inl k)]) (st' := []) (m' := m) (o := none) rfl trivial ?_
          refine ww_sub (L := [(0, .inr (.inr (.inl (some (34, 0))))), (1, .inl f), (2, .inl (7 * f)), (3, .inl (a + (10 + x))), (4, .inl a), (5, .inl (i + 1))]) ⟨rfl, rfl, rfl, rfl, rfl, rfl, trivial⟩ rfl rfl ?_
          exact (ih _ (by omega)).1 (a + (10 + x)) a (i + 1) rfl (by omega) (by exact (zman_s (by omega) ha hM hn rfl (by omega)).2) (by exact (zman_s (by omega) ha hM hn rfl (by omega)).1) (by exact Or.inr (by rw [show (i + 1).toNat - 1 = i.toNat from by omega]; exact ha)) (by exact fun j hj => (Decidable.em ((j : Int) < i)).elim (fun z => hJ j z) (fun z => (by have y1 : (zby m f) a = x := ((zby_a a).symm).trans hn.symm; rw [show j = i.toNat from by omega]; unfold zMj; rw [← ha, y1]; exact ⟨by omega, by omega, by omega, (by rw [← zby_a]; omega), (fun q hq => hN q (by omega)), (by first | exact Or.inl (by omega) | exact Or.inr (by have z8 := hl.elim (fun z => absurd z (by omega)) (fun z => z); rw [← z8]; exact absurd rfl (by omega)))⟩)))
        · show wW (zK sc) zM211 180 [(0, .inr (.inr (.inl (some (34, 0))))), (1, .inl f), (2, .inl (7 * f)), (3, .inl a), (4, .inl l), (5, .inl i), (6, .inl x), (7, .inl k)] [] _ _ _
          refine ww_go 4 (pc' := 185) (L' := [(0, .inr (.inr (.inl (some (34, 0))))), (1, .inl f), (2, .inl (7 * f)), (3, .inl a), (4, .inl l), (5, .inl i), (6, .inl x), (7, .inl k)]) (st' := [.inl a, .inl l, .inl (7 * f), .inr (.inr (.inl (some (34, 0))))]) (m' := m) (o := none) rfl trivial ?_
          refine ww_call (vs := [.inr (.inr (.inl (some (34, 0)))), .inl (7 * f), .inl l, .inl a]) (r := []) (p := 0 < 1) rfl rfl rfl rfl (show 0 < 1 from by omega) (yt208 (c := c) (by omega) (7 * f) l a hG (by omega)) ?_
          rintro _ _ _ ⟨r3, rfl, rfl, rfl, hr4⟩
          show wW (zK sc) zM211 188 [(0, .inr (.inr (.inl (some (34, 0))))), (1, .inl f), (2, .inl (7 * f)), (3, .inl a), (4, .inl l), (5, .inl i), (6, .inl x), (7, .inl k)] [.inl r3] _ _ _
          refine ww_if (t := 193) rfl rfl (by omega) (fun (h5 : r3 ≠ 0) => ?_) (fun (h5 : ¬ (r3 ≠ 0)) => ?_)
          · show wW (zK sc) zM211 193 [(0, .inr (.inr (.inl (some (34, 0))))), (1, .inl f), (2, .inl (7 * f)), (3, .inl a), (4, .inl l), (5, .inl i), (6, .inl x), (7, .inl k)] [] _ _ _
            refine ww_go 10 (pc' := 62) (L' := [(5, .inl (i + 1)), (3, .inl (a + (10 + x))), (4, .inl a), (0, .inr (.inr (.inl (some (34, 0))))), (1, .inl f), (2, .inl (7 * f)), (6, .inl x), (7, .inl k)]) (st' := []) (m' := m) (o := none) rfl trivial ?_
            refine ww_sub (L := [(0, .inr (.inr (.inl (some (34, 0))))), (1, .inl f), (2, .inl (7 * f)), (3, .inl (a + (10 + x))), (4, .inl a), (5, .inl (i + 1))]) ⟨rfl, rfl, rfl, rfl, rfl, rfl, trivial⟩ rfl rfl ?_
            exact (ih _ (by omega)).1 (a + (10 + x)) a (i + 1) rfl (by omega) (by exact (zman_s (by omega) ha hM hn rfl (by omega)).2) (by exact (zman_s (by omega) ha hM hn rfl (by omega)).1) (by exact Or.inr (by rw [show (i + 1).toNat - 1 = i.toNat from by omega]; exact ha)) (by exact fun j hj => (Decidable.em ((j : Int) < i)).elim (fun z => hJ j z) (fun z => (by have y1 : (zby m f) a = x := ((zby_a a).symm).trans hn.symm; rw [show j = i.toNat from by omega]; unfold zMj; rw [← ha, y1]; exact ⟨by omega, by omega, by omega, (by rw [← zby_a]; omega), (fun q hq => hN q (by omega)), (by first | exact Or.inl (by omega) | exact Or.inr (by have z8 := hl.elim (fun z => absurd z (by omega)) (fun z => z); rw [← z8]; exact hr4.elim (fun z => (by have z7 := z.2; rw [zby_e] at z7; exact z7)) (fun z => absurd z.1 (by omega))))⟩)))
          · show wW (zK sc) zM211 191 [(0, .inr (.inr (.inl (some (34, 0))))), (1, .inl f), (2, .inl (7 * f)), (3, .inl a), (4, .inl l), (5, .inl i), (6, .inl x), (7, .inl k)] [] _ _ _
            refine ww_go 1 (pc' := 192) (L' := [(0, .inr (.inr (.inl (some (34, 0))))), (1, .inl f), (2, .inl (7 * f)), (3, .inl a), (4, .inl l), (5, .inl i), (6, .inl x), (7, .inl k)]) (st' := [.inl 0]) (m' := m) (o := none) rfl trivial ?_
            exact ww_rB rfl rfl (by omega) ⟨_, rfl, rfl, rfl, by exact Or.inr ⟨rfl, fun zm => (by have zj9 := (zm.2.2.2.1 i.toNat (by omega)); unfold zMj at zj9; rw [← ha] at zj9; have z9 := zj9.2.2.2.2.2.elim (fun z => absurd z (by omega)) (fun z => z); have z8 := hl.elim (fun z => absurd z (by omega)) (fun z => z); rw [← z8] at z9; exact hr4.elim (fun z => absurd z.1 (by omega)) (fun z => z.2 (by rw [zby_e]; exact z9)))⟩⟩
      · show wW (zK sc) zM211 148 [(0, .inr (.inr (.inl (some (34, 0))))), (1, .inl f), (2, .inl (7 * f)), (3, .inl a), (4, .inl l), (5, .inl i), (6, .inl x), (7, .inl k)] [] _ _ _
        refine ww_go 5 (pc' := 154) (L' := [(0, .inr (.inr (.inl (some (34, 0))))), (1, .inl f), (2, .inl (7 * f)), (3, .inl a), (4, .inl l), (5, .inl i), (6, .inl x), (7, .inl k)]) (st' := [.inl (a + k), .inl (7 * f), .inr (.inr (.inl (some (34, 0))))]) (m' := m) (o := none) rfl trivial ?_
        refine ww_call (vs := [.inr (.inr (.inl (some (34, 0)))), .inl (7 * f), .inl (a + k)]) (r := []) (p := 0 < 1) rfl rfl rfl rfl (show 0 < 1 from by omega) (zs185 (c := c) (by omega) (7 * f) (a + k) hG (by omega)) ?_
        rintro _ _ _ ⟨r6, rfl, rfl, rfl, hr7⟩
        show wW (zK sc) zM211 157 [(0, .inr (.inr (.inl (some (34, 0))))), (1, .inl f), (2, .inl (7 * f)), (3, .inl a), (4, .inl l), (5, .inl i), (6, .inl x), (7, .inl k)] [.inl r6] _ _ _
        refine ww_go 2 (pc' := 161) (L' := [(0, .inr (.inr (.inl (some (34, 0))))), (1, .inl f), (2, .inl (7 * f)), (3, .inl a), (4, .inl l), (5, .inl i), (6, .inl x), (7, .inl k)]) (st' := [.inl 126, .inl 33, .inl r6]) (m' := m) (o := none) rfl trivial ?_
        refine ww_call (vs := [.inl r6, .inl 33, .inl 126]) (r := []) (p := True) rfl rfl rfl rfl trivial (zs207 r6 33 126 (by omega)) ?_
        rintro _ _ _ ⟨r8, rfl, rfl, rfl, hr9⟩
        show wW (zK sc) zM211 164 [(0, .inr (.inr (.inl (some (34, 0))))), (1, .inl f), (2, .inl (7 * f)), (3, .inl a), (4, .inl l), (5, .inl i), (6, .inl x), (7, .inl k)] [.inl r8] _ _ _
        refine ww_if (t := 169) rfl rfl (by omega) (fun (h10 : r8 ≠ 0) => ?_) (fun (h10 : ¬ (r8 ≠ 0)) => ?_)
        · show wW (zK sc) zM211 169 [(0, .inr (.inr (.inl (some (34, 0))))), (1, .inl f), (2, .inl (7 * f)), (3, .inl a), (4, .inl l), (5, .inl i), (6, .inl x), (7, .inl k)] [] _ _ _
          refine ww_go 2 (pc' := 141) (L' := [(7, .inl (k + 1)), (0, .inr (.inr (.inl (some (34, 0))))), (1, .inl f), (2, .inl (7 * f)), (3, .inl a), (4, .inl l), (5, .inl i), (6, .inl x)]) (st' := []) (m' := m) (o := none) rfl trivial ?_
          refine ww_sub (L := [(0, .inr (.inr (.inl (some (34, 0))))), (1, .inl f), (2, .inl (7 * f)), (3, .inl a), (4, .inl l), (5, .inl i), (6, .inl x), (7, .inl (k + 1))]) ⟨rfl, rfl, rfl, rfl, rfl, rfl, rfl, rfl, trivial⟩ rfl rfl ?_
          exact (ih _ (by omega)).2 a l i x (k + 1) rfl (by omega) (by exact ha) (by exact hM) (by exact hn) (by exact hl) (by exact hJ) (by exact fun q hq => (Decidable.em ((q : Int) < k - 1)).elim (fun z => hN q z) (fun z => (by rw [show a + 1 + (q : Int) = a + k from by omega, ← zby_a, ← hr7.1]; omega)))
        · show wW (zK sc) zM211 167 [(0, .inr (.inr (.inl (some (34, 0))))), (1, .inl f), (2, .inl (7 * f)), (3, .inl a), (4, .inl l), (5, .inl i), (6, .inl x), (7, .inl k)] [] _ _ _
          refine ww_go 1 (pc' := 168) (L' := [(0, .inr (.inr (.inl (some (34, 0))))), (1, .inl f), (2, .inl (7 * f)), (3, .inl a), (4, .inl l), (5, .inl i), (6, .inl x), (7, .inl k)]) (st' := [.inl 0]) (m' := m) (o := none) rfl trivial ?_
          exact ww_rB rfl rfl (by omega) ⟨_, rfl, rfl, rfl, by exact Or.inr ⟨rfl, fun zm => (by have zj9 := (zm.2.2.2.1 i.toNat (by omega)); unfold zMj at zj9; rw [← ha] at zj9; have y1 : (zby m f) a = x := ((zby_a a).symm).trans hn.symm; have z9 := zj9.2.2.2.2.1 (k - 1).toNat (by omega); rw [show a + 1 + (((k - 1).toNat : Nat) : Int) = a + k from by omega, ← zby_a, ← hr7.1] at z9; omega)⟩⟩
set_option maxRecDepth 8000 in
/-- Mo.isManifest -/
theorem yt211 {sc : xSc} {n : Nat × Nat} {m : wm} {c : Int} (hc : 0 ≤ c ∧ c ≤ 1000000) (f : Int) (hG : zB c m) (h0 : 0 ≤ f ∧ f ≤ 7) : wX (zK sc) 211 [.inr (.inr (.inl (some (34, 0)))), .inl f] n m (wr (fun vv n1 m1 => ∃ r : Int, vv = some (.inl r) ∧ n = n1 ∧ m = m1 ∧ ((r = 1 ∧ (zMF (m.1 56 0 ((104 * (7 * f) + 2).toNat)) (zby m f) ∧ m.1 56 0 ((104 * (7 * f) + 2).toNat) ≤ 6 ∧ 3 ≤ m.1 54 0 ((7 * f).toNat)) ∧ zMan (m.1 54 0 ((7 * f).toNat)) (m.1 50 0 f.toNat) (zby m f)) ∨ (r = 0 ∧ ¬ zMan (m.1 54 0 ((7 * f).toNat)) (m.1 50 0 f.toNat) (zby m f))))) := by
  refine wX_of (N := zM211) rfl (Nat.le_of_ble_eq_true rfl) ?_
  show wW (zK sc) zM211 0 [(0, .inr (.inr (.inl (some (34, 0))))), (1, .inl f)] [] n m _
  have bz : -1 ≤ m.1 54 0 ((7 * f).toNat) ∧ m.1 54 0 ((7 * f).toNat) ≤ 104 := hG.1 54 _ rfl _ _
  have bb : 0 ≤ m.1 56 0 ((104 * (7 * f) + 2).toNat) ∧ m.1 56 0 ((104 * (7 * f) + 2).toNat) ≤ 255 := hG.1 56 _ rfl _ _
  have zb0 : (zby m f) 0 = m.1 56 0 (104 * (7 * f) + 0).toNat := (zby_a 0).symm
  have zb1 : (zby m f) 1 = m.1 56 0 (104 * (7 * f) + 1).toNat := (zby_a 1).symm
  have zb2 : (zby m f) 2 = m.1 56 0 ((104 * (7 * f) + 2).toNat) := (zby_a 2).symm
  have b1 : (-1) ≤ m.1 54 0 ((7 * f).toNat) ∧ m.1 54 0 ((7 * f).toNat) ≤ 104 := hG.1 54 _ rfl _ _
  refine ww_go 9 (pc' := 12) (L' := [(2, .inl (7 * f)), (0, .inr (.inr (.inl (some (34, 0))))), (1, .inl f)]) (st' := [.inl 3, .inl (m.1 54 0 ((7 * f).toNat))]) (m' := m) (o := some ((0 < 1) ∧ (0 < 1 ∧ 0 ≤ 7 * f ∧ 7 * f < ((56 : Nat) : Int)))) rfl (show (0 < 1) ∧ (0 < 1 ∧ 0 ≤ 7 * f ∧ 7 * f < ((56 : Nat) : Int)) from by omega) ?_
  refine ww_ic (t := 52) rfl rfl (by omega) (fun (h2 : m.1 54 0 ((7 * f).toNat) < 3) => ?_) (fun (h2 : ¬ (m.1 54 0 ((7 * f).toNat) < 3)) => ?_)
  · show wW (zK sc) zM211 52 [(2, .inl (7 * f)), (0, .inr (.inr (.inl (some (34, 0))))), (1, .inl f)] [] _ _ _
    refine ww_go 1 (pc' := 53) (L' := [(2, .inl (7 * f)), (0, .inr (.inr (.inl (some (34, 0))))), (1, .inl f)]) (st' := [.inl 0]) (m' := m) (o := none) rfl trivial ?_
    exact ww_rB rfl rfl (by omega) ⟨_, rfl, rfl, rfl, by exact Or.inr ⟨rfl, fun zm => (by have z1 := zm.1; have z2 := zm.2.1; have z3 := zm.2.2.1; omega)⟩⟩
  · show wW (zK sc) zM211 15 [(2, .inl (7 * f)), (0, .inr (.inr (.inl (some (34, 0))))), (1, .inl f)] [] _ _ _
    refine ww_go 4 (pc' := 21) (L' := [(2, .inl (7 * f)), (0, .inr (.inr (.inl (some (34, 0))))), (1, .inl f)]) (st' := [.inl 0, .inl (7 * f), .inr (.inr (.inl (some (34, 0)))), .inl 256]) (m' := m) (o := none) rfl trivial ?_
    refine ww_call (vs := [.inr (.inr (.inl (some (34, 0)))), .inl (7 * f), .inl 0]) (r := [.inl 256]) (p := 0 < 1) rfl rfl rfl rfl (show 0 < 1 from by omega) (zs185 (c := c) (by omega) (7 * f) 0 hG (by omega)) ?_
    rintro _ _ _ ⟨r3, rfl, rfl, rfl, hr4⟩
    show wW (zK sc) zM211 24 [(2, .inl (7 * f)), (0, .inr (.inr (.inl (some (34, 0))))), (1, .inl f)] [.inl r3, .inl 256] _ _ _
    refine ww_go 4 (pc' := 28) (L' := [(2, .inl (7 * f)), (0, .inr (.inr (.inl (some (34, 0))))), (1, .inl f)]) (st' := [.inl 1, .inl (7 * f), .inr (.inr (.inl (some (34, 0)))), .inl (256 * r3)]) (m' := m) (o := none) rfl trivial ?_
    refine ww_call (vs := [.inr (.inr (.inl (some (34, 0)))), .inl (7 * f), .inl 1]) (r := [.inl (256 * r3)]) (p := 0 < 1) rfl rfl rfl rfl (show 0 < 1 from by omega) (zs185 (c := c) (by omega) (7 * f) 1 hG (by omega)) ?_
    rintro _ _ _ ⟨r5, rfl, rfl, rfl, hr6⟩
    show wW (zK sc) zM211 31 [(2, .inl (7 * f)), (0, .inr (.inr (.inl (some (34, 0))))), (1, .inl f)] [.inl r5, .inl (256 * r3)] _ _ _
    have b7 : 0 ≤ m.1 50 0 f.toNat ∧ m.1 50 0 f.toNat ≤ 65535 := hG.1 50 _ rfl _ _
    refine ww_go 5 (pc' := 38) (L' := [(2, .inl (7 * f)), (0, .inr (.inr (.inl (some (34, 0))))), (1, .inl f)]) (st' := [.inl (m.1 50 0 f.toNat), .inl ((256 * r3) + r5)]) (m' := m) (o := some ((0 < 1) ∧ (0 < 1 ∧ 0 ≤ f ∧ f < ((8 : Nat) : Int)))) rfl (show (0 < 1) ∧ (0 < 1 ∧ 0 ≤ f ∧ f < ((8 : Nat) : Int)) from by omega) ?_
    refine ww_ic (t := 52) rfl rfl (by omega) (fun (h8 : (256 * r3) + r5 ≠ m.1 50 0 f.toNat) => ?_) (fun (h8 : ¬ ((256 * r3) + r5 ≠ m.1 50 0 f.toNat)) => ?_)
    · show wW (zK sc) zM211 52 [(2, .inl (7 * f)), (0, .inr (.inr (.inl (some (34, 0))))), (1, .inl f)] [] _ _ _
      refine ww_go 1 (pc' := 53) (L' := [(2, .inl (7 * f)), (0, .inr (.inr (.inl (some (34, 0))))), (1, .inl f)]) (st' := [.inl 0]) (m' := m) (o := none) rfl trivial ?_
      exact ww_rB rfl rfl (by omega) ⟨_, rfl, rfl, rfl, by exact Or.inr ⟨rfl, fun zm => (by have z1 := zm.1; have z2 := zm.2.1; have z3 := zm.2.2.1; omega)⟩⟩
    · show wW (zK sc) zM211 41 [(2, .inl (7 * f)), (0, .inr (.inr (.inl (some (34, 0))))), (1, .inl f)] [] _ _ _
      refine ww_go 3 (pc' := 44) (L' := [(2, .inl (7 * f)), (0, .inr (.inr (.inl (some (34, 0))))), (1, .inl f)]) (st' := [.inl 2, .inl (7 * f), .inr (.inr (.inl (some (34, 0))))]) (m' := m) (o := none) rfl trivial ?_
      refine ww_call (vs := [.inr (.inr (.inl (some (34, 0)))), .inl (7 * f), .inl 2]) (r := []) (p := 0 < 1) rfl rfl rfl rfl (show 0 < 1 from by omega) (zs185 (c := c) (by omega) (7 * f) 2 hG (by omega)) ?_
      rintro _ _ _ ⟨r9, rfl, rfl, rfl, hr10⟩
      show wW (zK sc) zM211 47 [(2, .inl (7 * f)), (0, .inr (.inr (.inl (some (34, 0))))), (1, .inl f)] [.inl r9] _ _ _
      refine ww_go 1 (pc' := 49) (L' := [(2, .inl (7 * f)), (0, .inr (.inr (.inl (some (34, 0))))), (1, .inl f)]) (st' := [.inl 6, .inl r9]) (m' := m) (o := none) rfl trivial ?_
      refine ww_ic (t := 54) rfl rfl (by omega) (fun (h11 : r9 ≤ 6) => ?_) (fun (h11 : ¬ (r9 ≤ 6)) => ?_)
      · show wW (zK sc) zM211 54 [(2, .inl (7 * f)), (0, .inr (.inr (.inl (some (34, 0))))), (1, .inl f)] [] _ _ _
        refine ww_go 6 (pc' := 62) (L' := [(5, .inl 0), (4, .inl 0), (3, .inl 3), (2, .inl (7 * f)), (0, .inr (.inr (.inl (some (34, 0))))), (1, .inl f)]) (st' := []) (m' := m) (o := none) rfl trivial ?_
        refine ww_sub (L := [(0, .inr (.inr (.inl (some (34, 0))))), (1, .inl f), (2, .inl (7 * f)), (3, .inl 3), (4, .inl 0), (5, .inl 0)]) ⟨rfl, rfl, rfl, rfl, rfl, rfl, trivial⟩ rfl rfl ?_
        exact (yt211_l62 hc f hG h0 _).1 3 0 0 rfl (by omega) (by rfl) (by exact zMF_0) (by exact Or.inl rfl) (by exact fun j hj => absurd hj (by omega))
      · show wW (zK sc) zM211 52 [(2, .inl (7 * f)), (0, .inr (.inr (.inl (some (34, 0))))), (1, .inl f)] [] _ _ _
        refine ww_go 1 (pc' := 53) (L' := [(2, .inl (7 * f)), (0, .inr (.inr (.inl (some (34, 0))))), (1, .inl f)]) (st' := [.inl 0]) (m' := m) (o := none) rfl trivial ?_
        exact ww_rB rfl rfl (by omega) ⟨_, rfl, rfl, rfl, by exact Or.inr ⟨rfl, fun zm => (by have z1 := zm.1; have z2 := zm.2.1; have z3 := zm.2.2.1; omega)⟩⟩
set_option maxRecDepth 8000 in
/-- Mo.sizeTold -/
theorem yt245 {sc : xSc} {n : Nat × Nat} {m : wm} {c : Int} (hc : 0 ≤ c ∧ c ≤ 1000000) (f : Int) (i : Int) (x : Int) (hG : zB c m) (h0 : 0 ≤ f ∧ f ≤ 7 ∧ 1 ≤ i ∧ i ≤ x ∧ x ≤ 6) (hM : zMF x (zby m f)) : wX (zK sc) 245 [.inr (.inr (.inl (some (34, 0)))), .inl f, .inl i] n m (wr (fun vv n1 m1 => ∃ r : Int, vv = some (.inl r) ∧ n = n1 ∧ m = m1 ∧ (r = zSt m f i ∧ 0 ≤ r ∧ r ≤ 96))) := by
  refine wX_of (N := zM245) rfl (Nat.le_of_ble_eq_true rfl) ?_
  show wW (zK sc) zM245 0 [(0, .inr (.inr (.inl (some (34, 0))))), (1, .inl f), (2, .inl i)] [] n m _
  refine ww_go 5 (pc' := 5) (L' := [(0, .inr (.inr (.inl (some (34, 0))))), (1, .inl f), (2, .inl i)]) (st' := [.inl (i - 1), .inl f, .inr (.inr (.inl (some (34, 0))))]) (m' := m) (o := none) rfl trivial ?_
  refine ww_call (vs := [.inr (.inr (.inl (some (34, 0)))), .inl f, .inl (i - 1)]) (r := []) (p := 0 < 1) rfl rfl rfl rfl (show 0 < 1 from by omega) (zs249 (c := c) (by omega) f (i - 1) _ hG (by omega) hM) ?_
  rintro _ _ _ ⟨r1, rfl, rfl, rfl, hr2⟩
  show wW (zK sc) zM245 8 [(0, .inr (.inr (.inl (some (34, 0))))), (1, .inl f), (2, .inl i)] [.inl r1] _ _ _
  refine ww_go 13 (pc' := 23) (L' := [(3, .inl r1), (0, .inr (.inr (.inl (some (34, 0))))), (1, .inl f), (2, .inl i)]) (st' := [.inl r1, .inl (7 * f), .inr (.inr (.inl (some (34, 0)))), .inl (r1 + 1), .inl (7 * f), .inr (.inr (.inl (some (34, 0))))]) (m' := m) (o := none) rfl trivial ?_
  refine ww_call (vs := [.inr (.inr (.inl (some (34, 0)))), .inl (7 * f), .inl r1]) (r := [.inl (r1 + 1), .inl (7 * f), .inr (.inr (.inl (some (34, 0))))]) (p := 0 < 1) rfl rfl rfl rfl (show 0 < 1 from by omega) (zs185 (c := c) (by omega) (7 * f) r1 hG (by omega)) ?_
  rintro _ _ _ ⟨r3, rfl, rfl, rfl, hr4⟩
  have z5 := zMF_n (i := i - 1) hM (hr2).1 (hr4).1 (by omega)
  show wW (zK sc) zM245 26 [(3, .inl r1), (0, .inr (.inr (.inl (some (34, 0))))), (1, .inl f), (2, .inl i)] [.inl r3, .inl (r1 + 1), .inl (7 * f), .inr (.inr (.inl (some (34, 0))))] _ _ _
  refine ww_go 1 (pc' := 27) (L' := [(3, .inl r1), (0, .inr (.inr (.inl (some (34, 0))))), (1, .inl f), (2, .inl i)]) (st' := [.inl ((r1 + 1) + r3), .inl (7 * f), .inr (.inr (.inl (some (34, 0))))]) (m' := m) (o := none) rfl trivial ?_
  refine ww_call (vs := [.inr (.inr (.inl (some (34, 0)))), .inl (7 * f), .inl ((r1 + 1) + r3)]) (r := []) (p := 0 < 1) rfl rfl rfl rfl (show 0 < 1 from by omega) (zs185 (c := c) (by omega) (7 * f) ((r1 + 1) + r3) hG (by omega)) ?_
  rintro _ _ _ ⟨r6, rfl, rfl, rfl, hr7⟩
  show wW (zK sc) zM245 30 [(3, .inl r1), (0, .inr (.inr (.inl (some (34, 0))))), (1, .inl f), (2, .inl i)] [.inl r6] _ _ _
  exact ww_rI rfl rfl ⟨_, rfl, rfl, rfl, by exact ⟨(by unfold zSt; rw [← hr2.1, ← zby_a r1, ← hr4.1, ← zby_a, ← hr7.1]), by omega⟩⟩
set_option maxRecDepth 8000 in
theorem yt203_l16 {sc : xSc} {n : Nat × Nat} {m : wm} {c : Int} (hc : 0 ≤ c ∧ c ≤ 1000000) (f : Int) (i : Int) (x : Int) (hG : zB c m) (h0 : 0 ≤ f ∧ f ≤ 7 ∧ 1 ≤ i ∧ i ≤ x ∧ x ≤ 6) (hM : zMF x (zby m f)) : ∀ (d : Nat), ∀ (a : Int) (v : Int64) (k : Int), (8 - k).toNat = d → (6 ≤ a ∧ a ≤ 96 ∧ 0 ≤ k ∧ k ≤ 8) → (a = zat (zby m f) i.toNat - 8) → (v = zen (fun k : Nat => zby m f (zat (zby m f) i.toNat - 8 + (k : Int))) k.toNat) →  wW (zK sc) zM203 16 [(0, .inr (.inr (.inl (some (34, 0))))), (1, .inl f), (3, .inl a), (4, .inr (.inl v)), (6, .inl k)] [] n m (wr (fun vv n1 m1 => ∃ r : Int64, vv = some (.inr (.inl r)) ∧ n = n1 ∧ m = m1 ∧ (r = zHt m f i))) := by
  intro d
  induction d using Nat.strongRecOn with
  | ind d ih =>
    intro a v k hd hi ha hv
    refine ww_go 2 (pc' := 20) (L' := [(0, .inr (.inr (.inl (some (34, 0))))), (1, .inl f), (3, .inl a), (4, .inr (.inl v)), (6, .inl k)]) (st' := [.inl 8, .inl k]) (m' := m) (o := none) rfl trivial ?_
    refine ww_ic (t := 50) rfl rfl (by omega) (fun (h1 : 8 ≤ k) => ?_) (fun (h1 : ¬ (8 ≤ k)) => ?_)
    · show wW (zK sc) zM203 50 [(0, .inr (.inr (.inl (some (34, 0))))), (1, .inl f), (3, .inl a), (4, .inr (.inl v)), (6, .inl k)] [] _ _ _
      refine ww_go 1 (pc' := 52) (L' := [(0, .inr (.inr (.inl (some (34, 0))))), (1, .inl f), (3, .inl a), (4, .inr (.inl v)), (6, .inl k)]) (st' := [.inr (.inl v)]) (m' := m) (o := none) rfl trivial ?_
      exact ww_rL rfl rfl ⟨_, rfl, rfl, rfl, by (rw [show k = 8 from by omega] at hv; exact hv)⟩
    · show wW (zK sc) zM203 23 [(0, .inr (.inr (.inl (some (34, 0))))), (1, .inl f), (3, .inl a), (4, .inr (.inl v)), (6, .inl k)] [] _ _ _
      refine ww_go 10 (pc' := 37) (L' := [(0, .inr (.inr (.inl (some (34, 0))))), (1, .inl f), (3, .inl a), (4, .inr (.inl v)), (6, .inl k)]) (st' := [.inl (a + k), .inl (7 * f), .inr (.inr (.inl (some (34, 0)))), .inr (.inl (v <<< (wi2l 8 &&& 63)))]) (m' := m) (o := none) rfl trivial ?_
      refine ww_call (vs := [.inr (.inr (.inl (some (34, 0)))), .inl (7 * f), .inl (a + k)]) (r := [.inr (.inl (v <<< (wi2l 8 &&& 63)))]) (p := 0 < 1) rfl rfl rfl rfl (show 0 < 1 from by omega) (zs185 (c := c) (by omega) (7 * f) (a + k) hG (by omega)) ?_
      rintro _ _ _ ⟨r2, rfl, rfl, rfl, hr3⟩
      show wW (zK sc) zM203 40 [(0, .inr (.inr (.inl (some (34, 0))))), (1, .inl f), (3, .inl a), (4, .inr (.inl v)), (6, .inl k)] [.inl r2, .inr (.inl (v <<< (wi2l 8 &&& 63)))] _ _ _
      refine ww_go 5 (pc' := 16) (L' := [(6, .inl (k + 1)), (4, .inr (.inl ((v <<< (wi2l 8 &&& 63)) ||| (wi2l r2)))), (0, .inr (.inr (.inl (some (34, 0))))), (1, .inl f), (3, .inl a)]) (st' := []) (m' := m) (o := none) rfl trivial ?_
      refine ww_sub (L := [(0, .inr (.inr (.inl (some (34, 0))))), (1, .inl f), (3, .inl a), (4, .inr (.inl ((v <<< (wi2l 8 &&& 63)) ||| (wi2l r2)))), (6, .inl (k + 1))]) ⟨rfl, rfl, rfl, rfl, rfl, trivial⟩ rfl rfl ?_
      exact (ih _ (by omega)) a ((v <<< (wi2l 8 &&& 63)) ||| (wi2l r2)) (k + 1) rfl (by omega) (by exact ha) (by rw [hr3.1, hv, show (k + 1).toNat = k.toNat + 1 from by omega, zby_a, ha, show zat (zby m f) i.toNat - 8 + k = zat (zby m f) i.toNat - 8 + ((k.toNat : Nat) : Int) from by omega]; rfl)
set_option maxRecDepth 8000 in
/-- Mo.hashTold -/
theorem yt203 {sc : xSc} {n : Nat × Nat} {m : wm} {c : Int} (hc : 0 ≤ c ∧ c ≤ 1000000) (f : Int) (i : Int) (x : Int) (hG : zB c m) (h0 : 0 ≤ f ∧ f ≤ 7 ∧ 1 ≤ i ∧ i ≤ x ∧ x ≤ 6) (hM : zMF x (zby m f)) : wX (zK sc) 203 [.inr (.inr (.inl (some (34, 0)))), .inl f, .inl i] n m (wr (fun vv n1 m1 => ∃ r : Int64, vv = some (.inr (.inl r)) ∧ n = n1 ∧ m = m1 ∧ (r = zHt m f i))) := by
  refine wX_of (N := zM203) rfl (Nat.le_of_ble_eq_true rfl) ?_
  show wW (zK sc) zM203 0 [(0, .inr (.inr (.inl (some (34, 0))))), (1, .inl f), (2, .inl i)] [] n m _
  refine ww_go 3 (pc' := 3) (L' := [(0, .inr (.inr (.inl (some (34, 0))))), (1, .inl f), (2, .inl i)]) (st' := [.inl i, .inl f, .inr (.inr (.inl (some (34, 0))))]) (m' := m) (o := none) rfl trivial ?_
  refine ww_call (vs := [.inr (.inr (.inl (some (34, 0)))), .inl f, .inl i]) (r := []) (p := 0 < 1) rfl rfl rfl rfl (show 0 < 1 from by omega) (zs249 (c := c) (by omega) f i _ hG (by omega) hM) ?_
  rintro _ _ _ ⟨r1, rfl, rfl, rfl, hr2⟩
  have z3 := zMF_ge (i := i) hM (by omega)
  show wW (zK sc) zM203 6 [(0, .inr (.inr (.inl (some (34, 0))))), (1, .inl f), (2, .inl i)] [.inl r1] _ _ _
  refine ww_go 7 (pc' := 16) (L' := [(6, .inl 0), (4, .inr (.inl (Int64.ofNat 0))), (3, .inl (r1 - 8)), (0, .inr (.inr (.inl (some (34, 0))))), (1, .inl f), (2, .inl i)]) (st' := []) (m' := m) (o := none) rfl trivial ?_
  refine ww_sub (L := [(0, .inr (.inr (.inl (some (34, 0))))), (1, .inl f), (3, .inl (r1 - 8)), (4, .inr (.inl (Int64.ofNat 0))), (6, .inl 0)]) ⟨rfl, rfl, rfl, rfl, rfl, trivial⟩ rfl rfl ?_
  exact (yt203_l16 hc f i x hG h0 hM _) (r1 - 8) (Int64.ofNat 0) 0 rfl (by omega) (by have z9 := hr2.1; omega) (by rfl)
