set_option maxRecDepth 8000 in
/-- Folder.files -/
theorem zs55 {sc : xSc} {n : Nat × Nat} {m : wm} {c : Int} (hc : 0 ≤ c ∧ c ≤ 1000000) (t : Nat) (hG : zB c m) (h0 : t < 2) : wX (zK sc) 55 [.inr (.inr (.inl (some (6, t))))] n m (wr (fun vv n1 m1 => ∃ r : Int, vv = some (.inl r) ∧ n = n1 ∧ m = m1 ∧ (r = m.1 6 t 3 ∧ 0 ≤ r ∧ r ≤ 6))) := by
  refine wX_of (N := zM55) rfl (Nat.le_of_ble_eq_true rfl) ?_
  show wW (zK sc) zM55 0 [(0, .inr (.inr (.inl (some (6, t)))))] [] n m _
  have b1 : 0 ≤ m.1 6 t 3 ∧ m.1 6 t 3 ≤ 6 := hG.1 6 _ rfl _ _
  refine ww_go 2 (pc' := 4) (L' := [(0, .inr (.inr (.inl (some (6, t)))))]) (st' := [.inl (m.1 6 t 3)]) (m' := m) (o := some ((t < 2))) rfl (show (t < 2) from by omega) ?_
  exact ww_rI rfl rfl ⟨_, rfl, rfl, rfl, by exact ⟨rfl, by omega, by omega⟩⟩
set_option maxRecDepth 8000 in
/-- Folder.name -/
theorem zs59 {sc : xSc} {n : Nat × Nat} {m : wm} {c : Int} (hc : 0 ≤ c ∧ c ≤ 1000000) (x : Int) (t : Nat) (hG : zB c m) (h0 : t < 2 ∧ 0 ≤ x ∧ x ≤ 5) : wX (zK sc) 59 [.inr (.inr (.inl (some (6, t)))), .inl x] n m (wr (fun vv n1 m1 => ∃ r : Nat, vv = some (.inr (.inr (.inl (some (1, r))))) ∧ n = n1 ∧ m = m1 ∧ (r = m.2.2 7 t x.toNat ∧ 35 + 6 * t ≤ r ∧ r < 41 + 6 * t))) := by
  refine wX_of (N := zM59) rfl (Nat.le_of_ble_eq_true rfl) ?_
  show wW (zK sc) zM59 0 [(0, .inr (.inr (.inl (some (6, t))))), (1, .inl x)] [] n m _
  have b1 := (hG).2 t x.toNat (by omega) (by omega)
  refine ww_go 4 (pc' := 6) (L' := [(0, .inr (.inr (.inl (some (6, t))))), (1, .inl x)]) (st' := [.inr (.inr (.inl (some (1, m.2.2 7 t x.toNat))))]) (m' := m) (o := some ((t < 2) ∧ (t < 2 ∧ 0 ≤ x ∧ x < ((6 : Nat) : Int)))) rfl (show (t < 2) ∧ (t < 2 ∧ 0 ≤ x ∧ x < ((6 : Nat) : Int)) from by omega) ?_
  exact ww_rA rfl rfl ⟨_, rfl, rfl, rfl, by exact ⟨rfl, by omega, by omega⟩⟩
set_option maxRecDepth 8000 in
/-- Folder.content -/
theorem zs53 {sc : xSc} {n : Nat × Nat} {m : wm} {c : Int} (hc : 0 ≤ c ∧ c ≤ 1000000) (x : Int) (t : Nat) (hG : zB c m) (h0 : t < 2 ∧ 0 ≤ x ∧ x ≤ 5) : wX (zK sc) 53 [.inr (.inr (.inl (some (6, t)))), .inl x] n m (wr (fun vv n1 m1 => ∃ r : Nat, vv = some (.inr (.inr (.inl (some (1, r))))) ∧ n = n1 ∧ m = m1 ∧ (r = m.2.2 8 t x.toNat ∧ 47 + 6 * t ≤ r ∧ r < 53 + 6 * t))) := by
  refine wX_of (N := zM53) rfl (Nat.le_of_ble_eq_true rfl) ?_
  show wW (zK sc) zM53 0 [(0, .inr (.inr (.inl (some (6, t))))), (1, .inl x)] [] n m _
  have b1 := (hG).2 t x.toNat (by omega) (by omega)
  refine ww_go 4 (pc' := 6) (L' := [(0, .inr (.inr (.inl (some (6, t))))), (1, .inl x)]) (st' := [.inr (.inr (.inl (some (1, m.2.2 8 t x.toNat))))]) (m' := m) (o := some ((t < 2) ∧ (t < 2 ∧ 0 ≤ x ∧ x < ((6 : Nat) : Int)))) rfl (show (t < 2) ∧ (t < 2 ∧ 0 ≤ x ∧ x < ((6 : Nat) : Int)) from by omega) ?_
  exact ww_rA rfl rfl ⟨_, rfl, rfl, rfl, by exact ⟨rfl, by omega, by omega⟩⟩
set_option maxRecDepth 8000 in
theorem zs60_l2 {sc : xSc} {n : Nat × Nat} {m : wm} {c : Int} (hc : 0 ≤ c ∧ c ≤ 1000000) (t : Nat) (s : Nat) (hG : zB c m) (h0 : t < 2 ∧ s < 171) : ∀ (d : Nat), ∀ (x : Int), (6 - x).toNat = d → (0 ≤ x ∧ x ≤ m.1 6 t 3) → (∀ q : Nat, (q : Int) < x → ∃ c, zCm (zBR m (m.2.2 7 t q)) (zBR m s) c ∧ c < 0) →  wW (zK sc) zM60 2 [(0, .inr (.inr (.inl (some (6, t))))), (1, .inr (.inr (.inl (some (1, s))))), (2, .inl x)] [] n m (wr (fun vv n1 m1 => ∃ r : Int, vv = some (.inl r) ∧ n = n1 ∧ m = m1 ∧ (0 ≤ r ∧ r ≤ m.1 6 t 3 ∧ zPl (fun x => zBR m (m.2.2 7 t x)) (m.1 6 t 3) (zBR m s) r))) := by
  intro d
  induction d using Nat.strongRecOn with
  | ind d ih =>
    intro x hd hi hp
    have bf : 0 ≤ m.1 6 t 3 ∧ m.1 6 t 3 ≤ 6 := hG.1 6 _ rfl _ _
    have b1 : 0 ≤ m.1 6 t 3 ∧ m.1 6 t 3 ≤ 6 := hG.1 6 _ rfl _ _
    refine ww_go 3 (pc' := 7) (L' := [(0, .inr (.inr (.inl (some (6, t))))), (1, .inr (.inr (.inl (some (1, s))))), (2, .inl x)]) (st' := [.inl (m.1 6 t 3), .inl x]) (m' := m) (o := some ((t < 2))) rfl (show (t < 2) from by omega) ?_
    refine ww_ic (t := 29) rfl rfl (by omega) (fun (h2 : m.1 6 t 3 ≤ x) => ?_) (fun (h2 : ¬ (m.1 6 t 3 ≤ x)) => ?_)
    · show wW (zK sc) zM60 29 [(0, .inr (.inr (.inl (some (6, t))))), (1, .inr (.inr (.inl (some (1, s))))), (2, .inl x)] [] _ _ _
      refine ww_go 1 (pc' := 30) (L' := [(0, .inr (.inr (.inl (some (6, t))))), (1, .inr (.inr (.inl (some (1, s))))), (2, .inl x)]) (st' := [.inl x]) (m' := m) (o := none) rfl trivial ?_
      exact ww_rI rfl rfl ⟨_, rfl, rfl, rfl, by (exact ⟨by omega, by omega, ⟨by omega, by omega, fun q hq => hp q hq, fun z => absurd z (by omega)⟩⟩)⟩
    · show wW (zK sc) zM60 10 [(0, .inr (.inr (.inl (some (6, t))))), (1, .inr (.inr (.inl (some (1, s))))), (2, .inl x)] [] _ _ _
      have b3 := (hG).2 t x.toNat (by omega) (by omega)
      refine ww_go 5 (pc' := 17) (L' := [(0, .inr (.inr (.inl (some (6, t))))), (1, .inr (.inr (.inl (some (1, s))))), (2, .inl x)]) (st' := [.inr (.inr (.inl (some (1, s)))), .inr (.inr (.inl (some (1, m.2.2 7 t x.toNat))))]) (m' := m) (o := some ((t < 2) ∧ (t < 2 ∧ 0 ≤ x ∧ x < ((6 : Nat) : Int)))) rfl (show (t < 2) ∧ (t < 2 ∧ 0 ≤ x ∧ x < ((6 : Nat) : Int)) from by omega) ?_
      refine ww_call (vs := [.inr (.inr (.inl (some (1, m.2.2 7 t x.toNat)))), .inr (.inr (.inl (some (1, s))))]) (r := []) (p := m.2.2 7 t x.toNat < 171) rfl rfl rfl rfl (show m.2.2 7 t x.toNat < 171 from by omega) (zs30 (c := c) (by omega) (m.2.2 7 t x.toNat) s hG (by omega)) ?_
      rintro _ _ _ ⟨r4, rfl, rfl, rfl, hr5⟩
      show wW (zK sc) zM60 20 [(0, .inr (.inr (.inl (some (6, t))))), (1, .inr (.inr (.inl (some (1, s))))), (2, .inl x)] [.inl r4] _ _ _
      refine ww_if (t := 29) rfl rfl (by omega) (fun (h6 : 0 ≤ r4) => ?_) (fun (h6 : ¬ (0 ≤ r4)) => ?_)
      · show wW (zK sc) zM60 29 [(0, .inr (.inr (.inl (some (6, t))))), (1, .inr (.inr (.inl (some (1, s))))), (2, .inl x)] [] _ _ _
        refine ww_go 1 (pc' := 30) (L' := [(0, .inr (.inr (.inl (some (6, t))))), (1, .inr (.inr (.inl (some (1, s))))), (2, .inl x)]) (st' := [.inl x]) (m' := m) (o := none) rfl trivial ?_
        exact ww_rI rfl rfl ⟨_, rfl, rfl, rfl, by (exact ⟨by omega, by omega, ⟨by omega, by omega, fun q hq => hp q hq, fun z => ⟨_, (by show zCm (zBR m (m.2.2 7 t x.toNat)) (zBR m s) _; exact hr5.2), by omega⟩⟩⟩)⟩
      · show wW (zK sc) zM60 23 [(0, .inr (.inr (.inl (some (6, t))))), (1, .inr (.inr (.inl (some (1, s))))), (2, .inl x)] [] _ _ _
        refine ww_go 2 (pc' := 2) (L' := [(2, .inl (x + 1)), (0, .inr (.inr (.inl (some (6, t))))), (1, .inr (.inr (.inl (some (1, s)))))]) (st' := []) (m' := m) (o := none) rfl trivial ?_
        refine ww_sub (L := [(0, .inr (.inr (.inl (some (6, t))))), (1, .inr (.inr (.inl (some (1, s))))), (2, .inl (x + 1))]) ⟨rfl, rfl, rfl, trivial⟩ rfl rfl ?_
        exact (ih _ (by omega)) (x + 1) rfl (by omega) (by exact fun q hq => (Decidable.em ((q : Int) < x)).elim (fun z => hp q z) (fun z => ⟨r4, (by rw [show q = x.toNat from by omega]; exact hr5.2), by omega⟩))
set_option maxRecDepth 8000 in
/-- Folder.placeOf -/
theorem zs60 {sc : xSc} {n : Nat × Nat} {m : wm} {c : Int} (hc : 0 ≤ c ∧ c ≤ 1000000) (t : Nat) (s : Nat) (hG : zB c m) (h0 : t < 2 ∧ s < 171) : wX (zK sc) 60 [.inr (.inr (.inl (some (6, t)))), .inr (.inr (.inl (some (1, s))))] n m (wr (fun vv n1 m1 => ∃ r : Int, vv = some (.inl r) ∧ n = n1 ∧ m = m1 ∧ (0 ≤ r ∧ r ≤ m.1 6 t 3 ∧ zPl (fun x => zBR m (m.2.2 7 t x)) (m.1 6 t 3) (zBR m s) r))) := by
  refine wX_of (N := zM60) rfl (Nat.le_of_ble_eq_true rfl) ?_
  show wW (zK sc) zM60 0 [(0, .inr (.inr (.inl (some (6, t))))), (1, .inr (.inr (.inl (some (1, s)))))] [] n m _
  have bf : 0 ≤ m.1 6 t 3 ∧ m.1 6 t 3 ≤ 6 := hG.1 6 _ rfl _ _
  refine ww_go 2 (pc' := 2) (L' := [(2, .inl 0), (0, .inr (.inr (.inl (some (6, t))))), (1, .inr (.inr (.inl (some (1, s)))))]) (st' := []) (m' := m) (o := none) rfl trivial ?_
  refine ww_sub (L := [(0, .inr (.inr (.inl (some (6, t))))), (1, .inr (.inr (.inl (some (1, s))))), (2, .inl 0)]) ⟨rfl, rfl, rfl, trivial⟩ rfl rfl ?_
  exact (zs60_l2 hc t s hG h0 _) 0 rfl (by omega) (by exact fun q hq => absurd hq (by omega))
set_option maxRecDepth 8000 in
/-- Folder.isAt -/
theorem zs56 {sc : xSc} {n : Nat × Nat} {m : wm} {c : Int} (hc : 0 ≤ c ∧ c ≤ 1000000) (x : Int) (t : Nat) (s : Nat) (hG : zB c m) (h0 : t < 2 ∧ s < 171 ∧ 0 ≤ x ∧ x ≤ 6) : wX (zK sc) 56 [.inr (.inr (.inl (some (6, t)))), .inl x, .inr (.inr (.inl (some (1, s))))] n m (wr (fun vv n1 m1 => ∃ r : Int, vv = some (.inl r) ∧ n = n1 ∧ m = m1 ∧ ((r = 1 ∧ x < m.1 6 t 3 ∧ zAt (fun x => zBR m (m.2.2 7 t x)) (m.1 6 t 3) (zBR m s) x) ∨ (r = 0 ∧ ¬ zAt (fun x => zBR m (m.2.2 7 t x)) (m.1 6 t 3) (zBR m s) x)))) := by
  refine wX_of (N := zM56) rfl (Nat.le_of_ble_eq_true rfl) ?_
  show wW (zK sc) zM56 0 [(0, .inr (.inr (.inl (some (6, t))))), (1, .inl x), (2, .inr (.inr (.inl (some (1, s)))))] [] n m _
  have bf : 0 ≤ m.1 6 t 3 ∧ m.1 6 t 3 ≤ 6 := hG.1 6 _ rfl _ _
  have b1 : 0 ≤ m.1 6 t 3 ∧ m.1 6 t 3 ≤ 6 := hG.1 6 _ rfl _ _
  refine ww_go 3 (pc' := 5) (L' := [(0, .inr (.inr (.inl (some (6, t))))), (1, .inl x), (2, .inr (.inr (.inl (some (1, s)))))]) (st' := [.inl (m.1 6 t 3), .inl x]) (m' := m) (o := some ((t < 2))) rfl (show (t < 2) from by omega) ?_
  refine ww_ic (t := 25) rfl rfl (by omega) (fun (h2 : m.1 6 t 3 ≤ x) => ?_) (fun (h2 : ¬ (m.1 6 t 3 ≤ x)) => ?_)
  · show wW (zK sc) zM56 25 [(0, .inr (.inr (.inl (some (6, t))))), (1, .inl x), (2, .inr (.inr (.inl (some (1, s)))))] [] _ _ _
    refine ww_go 1 (pc' := 26) (L' := [(0, .inr (.inr (.inl (some (6, t))))), (1, .inl x), (2, .inr (.inr (.inl (some (1, s)))))]) (st' := [.inl 0]) (m' := m) (o := none) rfl trivial ?_
    exact ww_rB rfl rfl (by omega) ⟨_, rfl, rfl, rfl, by (exact Or.inr ⟨rfl, fun z => absurd z.1 (by omega)⟩)⟩
  · show wW (zK sc) zM56 8 [(0, .inr (.inr (.inl (some (6, t))))), (1, .inl x), (2, .inr (.inr (.inl (some (1, s)))))] [] _ _ _
    have b3 := (hG).2 t x.toNat (by omega) (by omega)
    refine ww_go 5 (pc' := 15) (L' := [(0, .inr (.inr (.inl (some (6, t))))), (1, .inl x), (2, .inr (.inr (.inl (some (1, s)))))]) (st' := [.inr (.inr (.inl (some (1, s)))), .inr (.inr (.inl (some (1, m.2.2 7 t x.toNat))))]) (m' := m) (o := some ((t < 2) ∧ (t < 2 ∧ 0 ≤ x ∧ x < ((6 : Nat) : Int)))) rfl (show (t < 2) ∧ (t < 2 ∧ 0 ≤ x ∧ x < ((6 : Nat) : Int)) from by omega) ?_
    refine ww_call (vs := [.inr (.inr (.inl (some (1, m.2.2 7 t x.toNat)))), .inr (.inr (.inl (some (1, s))))]) (r := []) (p := m.2.2 7 t x.toNat < 171) rfl rfl rfl rfl (show m.2.2 7 t x.toNat < 171 from by omega) (zs30 (c := c) (by omega) (m.2.2 7 t x.toNat) s hG (by omega)) ?_
    rintro _ _ _ ⟨r4, rfl, rfl, rfl, hr5⟩
    show wW (zK sc) zM56 18 [(0, .inr (.inr (.inl (some (6, t))))), (1, .inl x), (2, .inr (.inr (.inl (some (1, s)))))] [.inl r4] _ _ _
    refine ww_if (t := 25) rfl rfl (by omega) (fun (h6 : r4 ≠ 0) => ?_) (fun (h6 : ¬ (r4 ≠ 0)) => ?_)
    · show wW (zK sc) zM56 25 [(0, .inr (.inr (.inl (some (6, t))))), (1, .inl x), (2, .inr (.inr (.inl (some (1, s)))))] [] _ _ _
      refine ww_go 1 (pc' := 26) (L' := [(0, .inr (.inr (.inl (some (6, t))))), (1, .inl x), (2, .inr (.inr (.inl (some (1, s)))))]) (st' := [.inl 0]) (m' := m) (o := none) rfl trivial ?_
      exact ww_rB rfl rfl (by omega) ⟨_, rfl, rfl, rfl, by (exact Or.inr ⟨rfl, fun z => (by have z9 := zCm_u z.2 hr5.2; omega)⟩)⟩
    · show wW (zK sc) zM56 21 [(0, .inr (.inr (.inl (some (6, t))))), (1, .inl x), (2, .inr (.inr (.inl (some (1, s)))))] [] _ _ _
      refine ww_go 2 (pc' := 26) (L' := [(0, .inr (.inr (.inl (some (6, t))))), (1, .inl x), (2, .inr (.inr (.inl (some (1, s)))))]) (st' := [.inl 1]) (m' := m) (o := none) rfl trivial ?_
      exact ww_rB rfl rfl (by omega) ⟨_, rfl, rfl, rfl, by (exact Or.inl ⟨rfl, by omega, by omega, (by show zCm (zBR m (m.2.2 7 t x.toNat)) (zBR m s) 0; have z9 := hr5.2; rwa [show r4 = 0 from by omega] at z9)⟩)⟩
set_option maxRecDepth 8000 in
theorem zs58_l65 {sc : xSc} {n : Nat × Nat} {m0 : wm} {c : Int} (hc : 0 ≤ c ∧ c ≤ 1000000) (x : Int) (y : Int) (t : Nat) (hG : zB c m0) (h0 : t < 2 ∧ 0 ≤ x ∧ x ≤ 5 ∧ 0 ≤ y ∧ y ≤ 5) : ∀ (d : Nat), ∀ (u : Nat) (v : Nat) (z : Int) (m : wm), z.toNat = d → zB c m → zfr (fun k i j => (k = 7 ∧ i = t) ∨ (k = 8 ∧ i = t)) m0 m → (35 + 6 * t ≤ u ∧ u < 41 + 6 * t ∧ 47 + 6 * t ≤ v ∧ v < 53 + 6 * t ∧ 0 ≤ z ∧ z ≤ x ∧ x ≤ 5 ∧ (y ≤ z ∨ z = x)) → (u = m0.2.2 7 t x.toNat ∧ v = m0.2.2 8 t x.toNat) → (zU2 m0 m t x y z) →  wW (zK sc) zM58 65 [(0, .inr (.inr (.inl (some (6, t))))), (1, .inl x), (2, .inl y), (3, .inr (.inr (.inl (some (1, u))))), (4, .inr (.inr (.inl (some (1, v))))), (5, .inl z)] [] n m (wr (fun vv n1 m1 => vv = none ∧ n = n1 ∧ zB c m1 ∧ zfr (fun k i j => (k = 7 ∧ i = t) ∨ (k = 8 ∧ i = t)) m0 m1 ∧ (zMf m0 m1 t x y))) := by
  intro d
  induction d using Nat.strongRecOn with
  | ind d ih =>
    intro u v z m hd hGm hFm hi hu hw
    refine ww_go 2 (pc' := 68) (L' := [(0, .inr (.inr (.inl (some (6, t))))), (1, .inl x), (2, .inl y), (3, .inr (.inr (.inl (some (1, u))))), (4, .inr (.inr (.inl (some (1, v))))), (5, .inl z)]) (st' := [.inl y, .inl z]) (m' := m) (o := none) rfl trivial ?_
    refine ww_ic (t := 109) rfl rfl (by omega) (fun (h1 : z ≤ y) => ?_) (fun (h1 : ¬ (z ≤ y)) => ?_)
    · show wW (zK sc) zM58 109 [(0, .inr (.inr (.inl (some (6, t))))), (1, .inl x), (2, .inl y), (3, .inr (.inr (.inl (some (1, u))))), (4, .inr (.inr (.inl (some (1, v))))), (5, .inl z)] [] _ _ _
      refine ww_go 5 (pc' := 116) (L' := [(0, .inr (.inr (.inl (some (6, t))))), (1, .inl x), (2, .inl y), (3, .inr (.inr (.inl (some (1, u))))), (4, .inr (.inr (.inl (some (1, v))))), (5, .inl z)]) (st' := []) (m' := wuR m 7 t y.toNat u) (o := some ((t < 2) ∧ (t < 2 ∧ 0 ≤ y ∧ y < ((6 : Nat) : Int) ∧ u < 171))) rfl (show (t < 2) ∧ (t < 2 ∧ 0 ≤ y ∧ y < ((6 : Nat) : Int) ∧ u < 171) from by omega) ?_
      obtain ⟨m2, hm2⟩ : ∃ zq9 : wm, zq9 = wuR m 7 t y.toNat u := ⟨_, rfl⟩
      rw [← hm2]
      have hGm2 : zB c m2 := by rw [hm2]; exact zB_wR hGm (zBr_w7 hGm.2 (by omega))
      have hFm2 : zfr (fun k i j => (k = 7 ∧ i = t) ∨ (k = 8 ∧ i = t)) m0 m2 := by rw [hm2]; exact zfr_wR hFm (show (7 = 7 ∧ t = t) ∨ (7 = 8 ∧ t = t) from by omega)
      refine ww_go 5 (pc' := 124) (L' := [(0, .inr (.inr (.inl (some (6, t))))), (1, .inl x), (2, .inl y), (3, .inr (.inr (.inl (some (1, u))))), (4, .inr (.inr (.inl (some (1, v))))), (5, .inl z)]) (st' := []) (m' := wuR m2 8 t y.toNat v) (o := some ((t < 2) ∧ (t < 2 ∧ 0 ≤ y ∧ y < ((6 : Nat) : Int) ∧ v < 171))) rfl (show (t < 2) ∧ (t < 2 ∧ 0 ≤ y ∧ y < ((6 : Nat) : Int) ∧ v < 171) from by omega) ?_
      obtain ⟨m3, hm3⟩ : ∃ zq9 : wm, zq9 = wuR m2 8 t y.toNat v := ⟨_, rfl⟩
      rw [← hm3]
      have hGm3 : zB c m3 := by rw [hm3]; exact zB_wR hGm2 (zBr_w8 hGm2.2 (by omega))
      have hFm3 : zfr (fun k i j => (k = 7 ∧ i = t) ∨ (k = 8 ∧ i = t)) m0 m3 := by rw [hm3]; exact zfr_wR hFm2 (show (8 = 7 ∧ t = t) ∨ (8 = 8 ∧ t = t) from by omega)
      exact ww_rV rfl rfl ⟨rfl, rfl, zB_mono hGm3 (by omega), hFm3, (by rw [hm3, hm2]; exact zU2_e hw (by omega) (by omega) (by omega) (by omega) hu.1 hu.2)⟩
    · show wW (zK sc) zM58 71 [(0, .inr (.inr (.inl (some (6, t))))), (1, .inl x), (2, .inl y), (3, .inr (.inr (.inl (some (1, u))))), (4, .inr (.inr (.inl (some (1, v))))), (5, .inl z)] [] _ _ _
      have b4 := (hGm).2 t ((z - 1).toNat) (by omega) (by omega)
      refine ww_go 10 (pc' := 87) (L' := [(0, .inr (.inr (.inl (some (6, t))))), (1, .inl x), (2, .inl y), (3, .inr (.inr (.inl (some (1, u))))), (4, .inr (.inr (.inl (some (1, v))))), (5, .inl z)]) (st' := []) (m' := wuR m 7 t z.toNat (m.2.2 7 t ((z - 1).toNat))) (o := some ((t < 2) ∧ (t < 2) ∧ (t < 2 ∧ 0 ≤ z - 1 ∧ z - 1 < ((6 : Nat) : Int)) ∧ (t < 2 ∧ 0 ≤ z ∧ z < ((6 : Nat) : Int) ∧ m.2.2 7 t ((z - 1).toNat) < 171))) rfl (show (t < 2) ∧ (t < 2) ∧ (t < 2 ∧ 0 ≤ z - 1 ∧ z - 1 < ((6 : Nat) : Int)) ∧ (t < 2 ∧ 0 ≤ z ∧ z < ((6 : Nat) : Int) ∧ m.2.2 7 t ((z - 1).toNat) < 171) from by omega) ?_
      obtain ⟨m5, hm5⟩ : ∃ zq9 : wm, zq9 = wuR m 7 t z.toNat (m.2.2 7 t ((z - 1).toNat)) := ⟨_, rfl⟩
      rw [← hm5]
      have hGm5 : zB c m5 := by rw [hm5]; exact zB_wR hGm (zBr_w7 hGm.2 (by omega))
      have hFm5 : zfr (fun k i j => (k = 7 ∧ i = t) ∨ (k = 8 ∧ i = t)) m0 m5 := by rw [hm5]; exact zfr_wR hFm (show (7 = 7 ∧ t = t) ∨ (7 = 8 ∧ t = t) from by omega)
      have b6 := (hGm5).2 t ((z - 1).toNat) (by omega) (by omega)
      refine ww_go 10 (pc' := 103) (L' := [(0, .inr (.inr (.inl (some (6, t))))), (1, .inl x), (2, .inl y), (3, .inr (.inr (.inl (some (1, u))))), (4, .inr (.inr (.inl (some (1, v))))), (5, .inl z)]) (st' := []) (m' := wuR m5 8 t z.toNat (m5.2.2 8 t ((z - 1).toNat))) (o := some ((t < 2) ∧ (t < 2) ∧ (t < 2 ∧ 0 ≤ z - 1 ∧ z - 1 < ((6 : Nat) : Int)) ∧ (t < 2 ∧ 0 ≤ z ∧ z < ((6 : Nat) : Int) ∧ m5.2.2 8 t ((z - 1).toNat) < 171))) rfl (show (t < 2) ∧ (t < 2) ∧ (t < 2 ∧ 0 ≤ z - 1 ∧ z - 1 < ((6 : Nat) : Int)) ∧ (t < 2 ∧ 0 ≤ z ∧ z < ((6 : Nat) : Int) ∧ m5.2.2 8 t ((z - 1).toNat) < 171) from by omega) ?_
      obtain ⟨m7, hm7⟩ : ∃ zq9 : wm, zq9 = wuR m5 8 t z.toNat (m5.2.2 8 t ((z - 1).toNat)) := ⟨_, rfl⟩
      rw [← hm7]
      have hGm7 : zB c m7 := by rw [hm7]; exact zB_wR hGm5 (zBr_w8 hGm5.2 (by omega))
      have hFm7 : zfr (fun k i j => (k = 7 ∧ i = t) ∨ (k = 8 ∧ i = t)) m0 m7 := by rw [hm7]; exact zfr_wR hFm5 (show (8 = 7 ∧ t = t) ∨ (8 = 8 ∧ t = t) from by omega)
      refine ww_go 2 (pc' := 65) (L' := [(5, .inl (z + (-1))), (0, .inr (.inr (.inl (some (6, t))))), (1, .inl x), (2, .inl y), (3, .inr (.inr (.inl (some (1, u))))), (4, .inr (.inr (.inl (some (1, v)))))]) (st' := []) (m' := m7) (o := none) rfl trivial ?_
      refine ww_sub (L := [(0, .inr (.inr (.inl (some (6, t))))), (1, .inl x), (2, .inl y), (3, .inr (.inr (.inl (some (1, u))))), (4, .inr (.inr (.inl (some (1, v))))), (5, .inl (z + (-1)))]) ⟨rfl, rfl, rfl, rfl, rfl, rfl, trivial⟩ rfl rfl ?_
      exact (ih _ (by omega)) u v (z + (-1)) m7 rfl (zB_mono hGm7 (by omega)) hFm7 (by omega) (by exact hu) (by rw [hm7, hm5]; exact zU2_s hw (by omega) (by omega) (by omega) rfl rfl)
set_option maxRecDepth 8000 in
theorem zs58_l18 {sc : xSc} {n : Nat × Nat} {m0 : wm} {c : Int} (hc : 0 ≤ c ∧ c ≤ 1000000) (x : Int) (y : Int) (t : Nat) (hG : zB c m0) (h0 : t < 2 ∧ 0 ≤ x ∧ x ≤ 5 ∧ 0 ≤ y ∧ y ≤ 5) : ∀ (d : Nat), ∀ (u : Nat) (v : Nat) (z : Int) (m : wm), (5 - z).toNat = d → zB c m → zfr (fun k i j => (k = 7 ∧ i = t) ∨ (k = 8 ∧ i = t)) m0 m → (35 + 6 * t ≤ u ∧ u < 41 + 6 * t ∧ 47 + 6 * t ≤ v ∧ v < 53 + 6 * t ∧ 0 ≤ z ∧ z ≤ 5 ∧ x ≤ z ∧ (z ≤ y ∨ z = x)) → (u = m0.2.2 7 t x.toNat ∧ v = m0.2.2 8 t x.toNat) → (zU1 m0 m t x z) →  wW (zK sc) zM58 18 [(0, .inr (.inr (.inl (some (6, t))))), (1, .inl x), (2, .inl y), (3, .inr (.inr (.inl (some (1, u))))), (4, .inr (.inr (.inl (some (1, v))))), (5, .inl z)] [] n m (wr (fun vv n1 m1 => vv = none ∧ n = n1 ∧ zB c m1 ∧ zfr (fun k i j => (k = 7 ∧ i = t) ∨ (k = 8 ∧ i = t)) m0 m1 ∧ (zMf m0 m1 t x y))) := by
  intro d
  induction d using Nat.strongRecOn with
  | ind d ih =>
    intro u v z m hd hGm hFm hi hu hw
    refine ww_go 2 (pc' := 21) (L' := [(0, .inr (.inr (.inl (some (6, t))))), (1, .inl x), (2, .inl y), (3, .inr (.inr (.inl (some (1, u))))), (4, .inr (.inr (.inl (some (1, v))))), (5, .inl z)]) (st' := [.inl y, .inl z]) (m' := m) (o := none) rfl trivial ?_
    refine ww_ic (t := 62) rfl rfl (by omega) (fun (h1 : y ≤ z) => ?_) (fun (h1 : ¬ (y ≤ z)) => ?_)
    · show wW (zK sc) zM58 62 [(0, .inr (.inr (.inl (some (6, t))))), (1, .inl x), (2, .inl y), (3, .inr (.inr (.inl (some (1, u))))), (4, .inr (.inr (.inl (some (1, v))))), (5, .inl z)] [] _ _ _
      refine ww_go 2 (pc' := 65) (L' := [(5, .inl x), (0, .inr (.inr (.inl (some (6, t))))), (1, .inl x), (2, .inl y), (3, .inr (.inr (.inl (some (1, u))))), (4, .inr (.inr (.inl (some (1, v)))))]) (st' := []) (m' := m) (o := none) rfl trivial ?_
      refine ww_sub (L := [(0, .inr (.inr (.inl (some (6, t))))), (1, .inl x), (2, .inl y), (3, .inr (.inr (.inl (some (1, u))))), (4, .inr (.inr (.inl (some (1, v))))), (5, .inl x)]) ⟨rfl, rfl, rfl, rfl, rfl, rfl, trivial⟩ rfl rfl ?_
      exact (zs58_l65 hc x y t hG h0 _) u v x m rfl (zB_mono hGm (by omega)) hFm (by omega) (by exact hu) (by exact zU2_0 hw (by omega) (by omega))
    · show wW (zK sc) zM58 24 [(0, .inr (.inr (.inl (some (6, t))))), (1, .inl x), (2, .inl y), (3, .inr (.inr (.inl (some (1, u))))), (4, .inr (.inr (.inl (some (1, v))))), (5, .inl z)] [] _ _ _
      have b2 := (hGm).2 t ((z + 1).toNat) (by omega) (by omega)
      refine ww_go 10 (pc' := 40) (L' := [(0, .inr (.inr (.inl (some (6, t))))), (1, .inl x), (2, .inl y), (3, .inr (.inr (.inl (some (1, u))))), (4, .inr (.inr (.inl (some (1, v))))), (5, .inl z)]) (st' := []) (m' := wuR m 7 t z.toNat (m.2.2 7 t ((z + 1).toNat))) (o := some ((t < 2) ∧ (t < 2) ∧ (t < 2 ∧ 0 ≤ z + 1 ∧ z + 1 < ((6 : Nat) : Int)) ∧ (t < 2 ∧ 0 ≤ z ∧ z < ((6 : Nat) : Int) ∧ m.2.2 7 t ((z + 1).toNat) < 171))) rfl (show (t < 2) ∧ (t < 2) ∧ (t < 2 ∧ 0 ≤ z + 1 ∧ z + 1 < ((6 : Nat) : Int)) ∧ (t < 2 ∧ 0 ≤ z ∧ z < ((6 : Nat) : Int) ∧ m.2.2 7 t ((z + 1).toNat) < 171) from by omega) ?_
      obtain ⟨m3, hm3⟩ : ∃ zq9 : wm, zq9 = wuR m 7 t z.toNat (m.2.2 7 t ((z + 1).toNat)) := ⟨_, rfl⟩
      rw [← hm3]
      have hGm3 : zB c m3 := by rw [hm3]; exact zB_wR hGm (zBr_w7 hGm.2 (by omega))
      have hFm3 : zfr (fun k i j => (k = 7 ∧ i = t) ∨ (k = 8 ∧ i = t)) m0 m3 := by rw [hm3]; exact zfr_wR hFm (show (7 = 7 ∧ t = t) ∨ (7 = 8 ∧ t = t) from by omega)
      have b4 := (hGm3).2 t ((z + 1).toNat) (by omega) (by omega)
      refine ww_go 10 (pc' := 56) (L' := [(0, .inr (.inr (.inl (some (6, t))))), (1, .inl x), (2, .inl y), (3, .inr (.inr (.inl (some (1, u))))), (4, .inr (.inr (.inl (some (1, v))))), (5, .inl z)]) (st' := []) (m' := wuR m3 8 t z.toNat (m3.2.2 8 t ((z + 1).toNat))) (o := some ((t < 2) ∧ (t < 2) ∧ (t < 2 ∧ 0 ≤ z + 1 ∧ z + 1 < ((6 : Nat) : Int)) ∧ (t < 2 ∧ 0 ≤ z ∧ z < ((6 : Nat) : Int) ∧ m3.2.2 8 t ((z + 1).toNat) < 171))) rfl (show (t < 2) ∧ (t < 2) ∧ (t < 2 ∧ 0 ≤ z + 1 ∧ z + 1 < ((6 : Nat) : Int)) ∧ (t < 2 ∧ 0 ≤ z ∧ z < ((6 : Nat) : Int) ∧ m3.2.2 8 t ((z + 1).toNat) < 171) from by omega) ?_
      obtain ⟨m5, hm5⟩ : ∃ zq9 : wm, zq9 = wuR m3 8 t z.toNat (m3.2.2 8 t ((z + 1).toNat)) := ⟨_, rfl⟩
      rw [← hm5]
      have hGm5 : zB c m5 := by rw [hm5]; exact zB_wR hGm3 (zBr_w8 hGm3.2 (by omega))
      have hFm5 : zfr (fun k i j => (k = 7 ∧ i = t) ∨ (k = 8 ∧ i = t)) m0 m5 := by rw [hm5]; exact zfr_wR hFm3 (show (8 = 7 ∧ t = t) ∨ (8 = 8 ∧ t = t) from by omega)
      refine ww_go 2 (pc' := 18) (L' := [(5, .inl (z + 1)), (0, .inr (.inr (.inl (some (6, t))))), (1, .inl x), (2, .inl y), (3, .inr (.inr (.inl (some (1, u))))), (4, .inr (.inr (.inl (some (1, v)))))]) (st' := []) (m' := m5) (o := none) rfl trivial ?_
      refine ww_sub (L := [(0, .inr (.inr (.inl (some (6, t))))), (1, .inl x), (2, .inl y), (3, .inr (.inr (.inl (some (1, u))))), (4, .inr (.inr (.inl (some (1, v))))), (5, .inl (z + 1))]) ⟨rfl, rfl, rfl, rfl, rfl, rfl, trivial⟩ rfl rfl ?_
      exact (ih _ (by omega)) u v (z + 1) m5 rfl (zB_mono hGm5 (by omega)) hFm5 (by omega) (by exact hu) (by rw [hm5, hm3]; exact zU1_s hw (by omega) (by omega) rfl rfl)
set_option maxRecDepth 8000 in
/-- Folder.moveFile -/
theorem zs58 {sc : xSc} {n : Nat × Nat} {m0 : wm} {c : Int} (hc : 0 ≤ c ∧ c ≤ 1000000) (x : Int) (y : Int) (t : Nat) (hG : zB c m0) (h0 : t < 2 ∧ 0 ≤ x ∧ x ≤ 5 ∧ 0 ≤ y ∧ y ≤ 5) : wX (zK sc) 58 [.inr (.inr (.inl (some (6, t)))), .inl x, .inl y] n m0 (wr (fun vv n1 m1 => vv = none ∧ n = n1 ∧ zB c m1 ∧ zfr (fun k i j => (k = 7 ∧ i = t) ∨ (k = 8 ∧ i = t)) m0 m1 ∧ (zMf m0 m1 t x y))) := by
  refine wX_of (N := zM58) rfl (Nat.le_of_ble_eq_true rfl) ?_
  show wW (zK sc) zM58 0 [(0, .inr (.inr (.inl (some (6, t))))), (1, .inl x), (2, .inl y)] [] n m0 _
  have hF : zfr (fun k i j => (k = 7 ∧ i = t) ∨ (k = 8 ∧ i = t)) m0 m0 := zfr_rf
  have b1 := (hG).2 t x.toNat (by omega) (by omega)
  have b2 := (hG).2 t x.toNat (by omega) (by omega)
  refine ww_go 12 (pc' := 18) (L' := [(5, .inl x), (4, .inr (.inr (.inl (some (1, m0.2.2 8 t x.toNat))))), (3, .inr (.inr (.inl (some (1, m0.2.2 7 t x.toNat))))), (0, .inr (.inr (.inl (some (6, t))))), (1, .inl x), (2, .inl y)]) (st' := []) (m' := m0) (o := some ((t < 2) ∧ (t < 2 ∧ 0 ≤ x ∧ x < ((6 : Nat) : Int)) ∧ (t < 2) ∧ (t < 2 ∧ 0 ≤ x ∧ x < ((6 : Nat) : Int)))) rfl (show (t < 2) ∧ (t < 2 ∧ 0 ≤ x ∧ x < ((6 : Nat) : Int)) ∧ (t < 2) ∧ (t < 2 ∧ 0 ≤ x ∧ x < ((6 : Nat) : Int)) from by omega) ?_
  refine ww_sub (L := [(0, .inr (.inr (.inl (some (6, t))))), (1, .inl x), (2, .inl y), (3, .inr (.inr (.inl (some (1, m0.2.2 7 t x.toNat))))), (4, .inr (.inr (.inl (some (1, m0.2.2 8 t x.toNat))))), (5, .inl x)]) ⟨rfl, rfl, rfl, rfl, rfl, rfl, trivial⟩ rfl rfl ?_
  exact (zs58_l18 hc x y t hG h0 _) (m0.2.2 7 t x.toNat) (m0.2.2 8 t x.toNat) x m0 rfl (zB_mono hG (by omega)) hF (by omega) (by exact ⟨rfl, rfl⟩) (by exact zU1_0)
set_option maxRecDepth 8000 in
/-- Folder.put -/
theorem zs61 {sc : xSc} {n : Nat × Nat} {m0 : wm} {c : Int} (hc : 0 ≤ c ∧ c ≤ 1000000) (t : Nat) (s : Nat) (u : Nat) (hG : zB c m0) (h0 : t < 2 ∧ s < 35 ∧ u < 35 ∧ m0.1 1 s 1 ≤ 6 ∧ m0.1 1 u 1 ≤ 96) (hD : zDi m0) : wX (zK sc) 61 [.inr (.inr (.inl (some (6, t)))), .inr (.inr (.inl (some (1, s)))), .inr (.inr (.inl (some (1, u))))] n m0 (wr (fun vv n1 m1 => ∃ r : Int, vv = some (.inl r) ∧ n = n1 ∧ zB c m1 ∧ zfr (fun k i j => (k = 7 ∧ i = t) ∨ (k = 8 ∧ i = t) ∨ (k = 6 ∧ i = t ∧ j = 3) ∨ (k = 1 ∧ (35 + 6 * t ≤ i ∧ i < 41 + 6 * t ∨ 47 + 6 * t ≤ i ∧ i < 53 + 6 * t) ∧ j = 1) ∨ (k = 2 ∧ (35 + 6 * t ≤ i ∧ i < 41 + 6 * t ∨ 47 + 6 * t ≤ i ∧ i < 53 + 6 * t))) m0 m1 ∧ (0 ≤ r ∧ r ≤ 6 ∧ zPut (zCF m0 t) (m0.1 6 t 3) (zBR m0 s) (zBR m0 u) (zCF m1 t) (m1.1 6 t 3) r ∧ zDi m1))) := by
  refine wX_of (N := zM61) rfl (Nat.le_of_ble_eq_true rfl) ?_
  show wW (zK sc) zM61 0 [(0, .inr (.inr (.inl (some (6, t))))), (1, .inr (.inr (.inl (some (1, s))))), (2, .inr (.inr (.inl (some (1, u)))))] [] n m0 _
  have hF : zfr (fun k i j => (k = 7 ∧ i = t) ∨ (k = 8 ∧ i = t) ∨ (k = 6 ∧ i = t ∧ j = 3) ∨ (k = 1 ∧ (35 + 6 * t ≤ i ∧ i < 41 + 6 * t ∨ 47 + 6 * t ≤ i ∧ i < 53 + 6 * t) ∧ j = 1) ∨ (k = 2 ∧ (35 + 6 * t ≤ i ∧ i < 41 + 6 * t ∨ 47 + 6 * t ≤ i ∧ i < 53 + 6 * t))) m0 m0 := zfr_rf
  have bf : 0 ≤ m0.1 6 t 3 ∧ m0.1 6 t 3 ≤ 6 := hG.1 6 _ rfl _ _
  refine ww_go 2 (pc' := 2) (L' := [(0, .inr (.inr (.inl (some (6, t))))), (1, .inr (.inr (.inl (some (1, s))))), (2, .inr (.inr (.inl (some (1, u)))))]) (st' := [.inr (.inr (.inl (some (1, s)))), .inr (.inr (.inl (some (6, t))))]) (m' := m0) (o := none) rfl trivial ?_
  refine ww_call (vs := [.inr (.inr (.inl (some (6, t)))), .inr (.inr (.inl (some (1, s))))]) (r := []) (p := t < 2) rfl rfl rfl rfl (show t < 2 from by omega) (zs60 (c := c) (by omega) t s hG (by omega)) ?_
  rintro _ _ _ ⟨r1, rfl, rfl, rfl, hr2⟩
  show wW (zK sc) zM61 5 [(0, .inr (.inr (.inl (some (6, t))))), (1, .inr (.inr (.inl (some (1, s))))), (2, .inr (.inr (.inl (some (1, u)))))] [.inl r1] _ _ _
  refine ww_go 4 (pc' := 9) (L' := [(3, .inl r1), (0, .inr (.inr (.inl (some (6, t))))), (1, .inr (.inr (.inl (some (1, s))))), (2, .inr (.inr (.inl (some (1, u)))))]) (st' := [.inr (.inr (.inl (some (1, s)))), .inl r1, .inr (.inr (.inl (some (6, t))))]) (m' := m0) (o := none) rfl trivial ?_
  refine ww_call (vs := [.inr (.inr (.inl (some (6, t)))), .inl r1, .inr (.inr (.inl (some (1, s))))]) (r := []) (p := t < 2) rfl rfl rfl rfl (show t < 2 from by omega) (zs56 (c := c) (by omega) r1 t s hG (by omega)) ?_
  rintro _ _ _ ⟨r3, rfl, rfl, rfl, hr4⟩
  show wW (zK sc) zM61 12 [(3, .inl r1), (0, .inr (.inr (.inl (some (6, t))))), (1, .inr (.inr (.inl (some (1, s))))), (2, .inr (.inr (.inl (some (1, u)))))] [.inl r3] _ _ _
  refine ww_if (t := 55) rfl rfl (by omega) (fun (h5 : r3 ≠ 0) => ?_) (fun (h5 : ¬ (r3 ≠ 0)) => ?_)
  · show wW (zK sc) zM61 55 [(3, .inl r1), (0, .inr (.inr (.inl (some (6, t))))), (1, .inr (.inr (.inl (some (1, s))))), (2, .inr (.inr (.inl (some (1, u)))))] [] _ _ _
    have b6 := (hG).2 t r1.toNat (by omega) (by omega)
    refine ww_go 5 (pc' := 62) (L' := [(3, .inl r1), (0, .inr (.inr (.inl (some (6, t))))), (1, .inr (.inr (.inl (some (1, s))))), (2, .inr (.inr (.inl (some (1, u)))))]) (st' := [.inr (.inr (.inl (some (1, u)))), .inr (.inr (.inl (some (1, m0.2.2 8 t r1.toNat))))]) (m' := m0) (o := some ((t < 2) ∧ (t < 2 ∧ 0 ≤ r1 ∧ r1 < ((6 : Nat) : Int)))) rfl (show (t < 2) ∧ (t < 2 ∧ 0 ≤ r1 ∧ r1 < ((6 : Nat) : Int)) from by omega) ?_
    refine ww_call (vs := [.inr (.inr (.inl (some (1, m0.2.2 8 t r1.toNat)))), .inr (.inr (.inl (some (1, u))))]) (r := []) (p := m0.2.2 8 t r1.toNat < 171) rfl rfl rfl rfl (show m0.2.2 8 t r1.toNat < 171 from by omega) (zs32 (c := c) (by omega) (m0.2.2 8 t r1.toNat) u hG (by omega)) ?_
    rintro _ _ m9 ⟨rfl, rfl, hGm9, hEm9, hr8⟩
    have hFm9 : zfr (fun k i j => (k = 7 ∧ i = t) ∨ (k = 8 ∧ i = t) ∨ (k = 6 ∧ i = t ∧ j = 3) ∨ (k = 1 ∧ (35 + 6 * t ≤ i ∧ i < 41 + 6 * t ∨ 47 + 6 * t ≤ i ∧ i < 53 + 6 * t) ∧ j = 1) ∨ (k = 2 ∧ (35 + 6 * t ≤ i ∧ i < 41 + 6 * t ∨ 47 + 6 * t ≤ i ∧ i < 53 + 6 * t))) m0 m9 := zfr_tr hF hEm9 (fun k i j z => Or.elim z (fun z => (show (k = 7 ∧ i = t) ∨ (k = 8 ∧ i = t) ∨ (k = 6 ∧ i = t ∧ j = 3) ∨ (k = 1 ∧ (35 + 6 * t ≤ i ∧ i < 41 + 6 * t ∨ 47 + 6 * t ≤ i ∧ i < 53 + 6 * t) ∧ j = 1) ∨ (k = 2 ∧ (35 + 6 * t ≤ i ∧ i < 41 + 6 * t ∨ 47 + 6 * t ≤ i ∧ i < 53 + 6 * t)) from Or.inr (Or.inr (Or.inr (Or.inl ((show k = 1 ∧ (35 + 6 * t ≤ i ∧ i < 41 + 6 * t ∨ 47 + 6 * t ≤ i ∧ i < 53 + 6 * t) ∧ j = 1 from by omega))))))) (fun z => (show (k = 7 ∧ i = t) ∨ (k = 8 ∧ i = t) ∨ (k = 6 ∧ i = t ∧ j = 3) ∨ (k = 1 ∧ (35 + 6 * t ≤ i ∧ i < 41 + 6 * t ∨ 47 + 6 * t ≤ i ∧ i < 53 + 6 * t) ∧ j = 1) ∨ (k = 2 ∧ (35 + 6 * t ≤ i ∧ i < 41 + 6 * t ∨ 47 + 6 * t ≤ i ∧ i < 53 + 6 * t)) from Or.inr (Or.inr (Or.inr (Or.inr ((show k = 2 ∧ (35 + 6 * t ≤ i ∧ i < 41 + 6 * t ∨ 47 + 6 * t ≤ i ∧ i < 53 + 6 * t) from by omega))))))))
    have w10 : m9.1 6 t 3 = m0.1 6 t 3 := (hEm9 6 t 3 (show ¬ ((6 = 1 ∧ t = (m0.2.2 8 t r1.toNat) ∧ 3 = 1) ∨ (6 = 2 ∧ t = (m0.2.2 8 t r1.toNat))) from by omega)).1
    have w11 : m9.1 1 s 1 = m0.1 1 s 1 := (hEm9 1 s 1 (show ¬ ((1 = 1 ∧ s = (m0.2.2 8 t r1.toNat) ∧ 1 = 1) ∨ (1 = 2 ∧ s = (m0.2.2 8 t r1.toNat))) from by omega)).1
    have w12 : m9.1 1 u 1 = m0.1 1 u 1 := (hEm9 1 u 1 (show ¬ ((1 = 1 ∧ u = (m0.2.2 8 t r1.toNat) ∧ 1 = 1) ∨ (1 = 2 ∧ u = (m0.2.2 8 t r1.toNat))) from by omega)).1
    show wW (zK sc) zM61 65 [(3, .inl r1), (0, .inr (.inr (.inl (some (6, t))))), (1, .inr (.inr (.inl (some (1, s))))), (2, .inr (.inr (.inl (some (1, u)))))] [] _ _ _
    have zr9 : zlim (m0.2.2 8 t r1.toNat) = 96 := zlim_d (t := t) (by omega) (by omega)
    have b13 : 0 ≤ m9.1 6 t 3 ∧ m9.1 6 t 3 ≤ 6 := hGm9.1 6 _ rfl _ _
    refine ww_go 2 (pc' := 69) (L' := [(3, .inl r1), (0, .inr (.inr (.inl (some (6, t))))), (1, .inr (.inr (.inl (some (1, s))))), (2, .inr (.inr (.inl (some (1, u)))))]) (st' := [.inl (m9.1 6 t 3)]) (m' := m9) (o := some ((t < 2))) rfl (show (t < 2) from by omega) ?_
    have zp9 := zPut_c1 (by omega) hG hD hr2.2.2 (hr4.elim (fun z => z.2.2) (fun z => absurd z.1 (by omega))) (by omega) hEm9 (fun k i j z => by have z9 : (k = 1 ∧ i = (m0.2.2 8 t r1.toNat) ∧ j = 1) ∨ (k = 2 ∧ i = (m0.2.2 8 t r1.toNat)) := z; omega) (hr8.2 (by rw [zr9]; omega))
    exact ww_rI rfl rfl ⟨_, rfl, rfl, zB_mono hGm9 (by omega), hFm9, ⟨by omega, by omega, (by have z9 := zp9.1; rw [show (m0.1 6 t 3) = m9.1 6 t 3 from by omega] at z9; first | exact z9 | (rw [← show (m0.1 6 t 3) = m9.1 6 t 3 from by omega] at z9 ⊢; exact z9)), zp9.2⟩⟩
  · show wW (zK sc) zM61 15 [(3, .inl r1), (0, .inr (.inr (.inl (some (6, t))))), (1, .inr (.inr (.inl (some (1, s))))), (2, .inr (.inr (.inl (some (1, u)))))] [] _ _ _
    have b14 : 0 ≤ m0.1 6 t 3 ∧ m0.1 6 t 3 ≤ 6 := hG.1 6 _ rfl _ _
    refine ww_go 3 (pc' := 21) (L' := [(3, .inl r1), (0, .inr (.inr (.inl (some (6, t))))), (1, .inr (.inr (.inl (some (1, s))))), (2, .inr (.inr (.inl (some (1, u)))))]) (st' := [.inl 6, .inl (m0.1 6 t 3)]) (m' := m0) (o := some ((t < 2))) rfl (show (t < 2) from by omega) ?_
    refine ww_ic (t := 26) rfl rfl (by omega) (fun (h15 : m0.1 6 t 3 ≠ 6) => ?_) (fun (h15 : ¬ (m0.1 6 t 3 ≠ 6)) => ?_)
    · show wW (zK sc) zM61 26 [(3, .inl r1), (0, .inr (.inr (.inl (some (6, t))))), (1, .inr (.inr (.inl (some (1, s))))), (2, .inr (.inr (.inl (some (1, u)))))] [] _ _ _
      have b16 : 0 ≤ m0.1 6 t 3 ∧ m0.1 6 t 3 ≤ 6 := hG.1 6 _ rfl _ _
      refine ww_go 4 (pc' := 32) (L' := [(3, .inl r1), (0, .inr (.inr (.inl (some (6, t))))), (1, .inr (.inr (.inl (some (1, s))))), (2, .inr (.inr (.inl (some (1, u)))))]) (st' := [.inl r1, .inl (m0.1 6 t 3), .inr (.inr (.inl (some (6, t))))]) (m' := m0) (o := some ((t < 2))) rfl (show (t < 2) from by omega) ?_
      refine ww_call (vs := [.inr (.inr (.inl (some (6, t)))), .inl (m0.1 6 t 3), .inl r1]) (r := []) (p := t < 2) rfl rfl rfl rfl (show t < 2 from by omega) (zs58 (c := c) (by omega) (m0.1 6 t 3) r1 t hG (by omega)) ?_
      rintro _ _ m19 ⟨rfl, rfl, hGm19, hEm19, hr18⟩
      have hFm19 : zfr (fun k i j => (k = 7 ∧ i = t) ∨ (k = 8 ∧ i = t) ∨ (k = 6 ∧ i = t ∧ j = 3) ∨ (k = 1 ∧ (35 + 6 * t ≤ i ∧ i < 41 + 6 * t ∨ 47 + 6 * t ≤ i ∧ i < 53 + 6 * t) ∧ j = 1) ∨ (k = 2 ∧ (35 + 6 * t ≤ i ∧ i < 41 + 6 * t ∨ 47 + 6 * t ≤ i ∧ i < 53 + 6 * t))) m0 m19 := zfr_tr hF hEm19 (fun k i j z => Or.elim z (fun z => Or.inl z) (fun z => Or.inr (Or.inl z)))
      have w20 : m19.1 6 t 3 = m0.1 6 t 3 := (hEm19 6 t 3 (show ¬ ((6 = 7 ∧ t = t) ∨ (6 = 8 ∧ t = t)) from by omega)).1
      have w21 : m19.1 1 s 1 = m0.1 1 s 1 := (hEm19 1 s 1 (show ¬ ((1 = 7 ∧ s = t) ∨ (1 = 8 ∧ s = t)) from by omega)).1
      have w22 : m19.1 1 u 1 = m0.1 1 u 1 := (hEm19 1 u 1 (show ¬ ((1 = 7 ∧ u = t) ∨ (1 = 8 ∧ u = t)) from by omega)).1
      show wW (zK sc) zM61 35 [(3, .inl r1), (0, .inr (.inr (.inl (some (6, t))))), (1, .inr (.inr (.inl (some (1, s))))), (2, .inr (.inr (.inl (some (1, u)))))] [] _ _ _
      have b23 : 0 ≤ m19.1 6 t 3 ∧ m19.1 6 t 3 ≤ 6 := hGm19.1 6 _ rfl _ _
      refine ww_go 6 (pc' := 45) (L' := [(3, .inl r1), (0, .inr (.inr (.inl (some (6, t))))), (1, .inr (.inr (.inl (some (1, s))))), (2, .inr (.inr (.inl (some (1, u)))))]) (st' := []) (m' := wuI m19 6 t 3 ((m19.1 6 t 3) + 1)) (o := some ((t < 2) ∧ (t < 2))) rfl (show (t < 2) ∧ (t < 2) from by omega) ?_
      obtain ⟨m24, hm24⟩ : ∃ zq9 : wm, zq9 = wuI m19 6 t 3 ((m19.1 6 t 3) + 1) := ⟨_, rfl⟩
      rw [← hm24]
      have hGm24 : zB c m24 := by rw [hm24]; exact zB_wI rfl (show 0 ≤ (m19.1 6 t 3) + 1 ∧ (m19.1 6 t 3) + 1 ≤ 6 from by omega) hGm19
      have hFm24 : zfr (fun k i j => (k = 7 ∧ i = t) ∨ (k = 8 ∧ i = t) ∨ (k = 6 ∧ i = t ∧ j = 3) ∨ (k = 1 ∧ (35 + 6 * t ≤ i ∧ i < 41 + 6 * t ∨ 47 + 6 * t ≤ i ∧ i < 53 + 6 * t) ∧ j = 1) ∨ (k = 2 ∧ (35 + 6 * t ≤ i ∧ i < 41 + 6 * t ∨ 47 + 6 * t ≤ i ∧ i < 53 + 6 * t))) m0 m24 := by rw [hm24]; exact zfr_wI hFm19 (show (6 = 7 ∧ t = t) ∨ (6 = 8 ∧ t = t) ∨ (6 = 6 ∧ t = t ∧ 3 = 3) ∨ (6 = 1 ∧ (35 + 6 * t ≤ t ∧ t < 41 + 6 * t ∨ 47 + 6 * t ≤ t ∧ t < 53 + 6 * t) ∧ 3 = 1) ∨ (6 = 2 ∧ (35 + 6 * t ≤ t ∧ t < 41 + 6 * t ∨ 47 + 6 * t ≤ t ∧ t < 53 + 6 * t)) from Or.inr (Or.inr (Or.inl ((show (6 = 6 ∧ t = t ∧ 3 = 3) from by omega)))))
      have s25 : m24.1 6 t 3 = (m19.1 6 t 3) + 1 := by rw [hm24]; exact wuI_self
      have w26 : m24.1 1 s 1 = m19.1 1 s 1 := by rw [hm24]; rfl
      have w27 : m24.1 1 u 1 = m19.1 1 u 1 := by rw [hm24]; rfl
      have b28 := (hGm24).2 t r1.toNat (by omega) (by omega)
      refine ww_go 5 (pc' := 52) (L' := [(3, .inl r1), (0, .inr (.inr (.inl (some (6, t))))), (1, .inr (.inr (.inl (some (1, s))))), (2, .inr (.inr (.inl (some (1, u)))))]) (st' := [.inr (.inr (.inl (some (1, s)))), .inr (.inr (.inl (some (1, m24.2.2 7 t r1.toNat))))]) (m' := m24) (o := some ((t < 2) ∧ (t < 2 ∧ 0 ≤ r1 ∧ r1 < ((6 : Nat) : Int)))) rfl (show (t < 2) ∧ (t < 2 ∧ 0 ≤ r1 ∧ r1 < ((6 : Nat) : Int)) from by omega) ?_
      refine ww_call (vs := [.inr (.inr (.inl (some (1, m24.2.2 7 t r1.toNat)))), .inr (.inr (.inl (some (1, s))))]) (r := []) (p := m24.2.2 7 t r1.toNat < 171) rfl rfl rfl rfl (show m24.2.2 7 t r1.toNat < 171 from by omega) (zs32 (c := c) (by omega) (m24.2.2 7 t r1.toNat) s hGm24 (by omega)) ?_
      rintro _ _ m31 ⟨rfl, rfl, hGm31, hEm31, hr30⟩
      have hFm31 : zfr (fun k i j => (k = 7 ∧ i = t) ∨ (k = 8 ∧ i = t) ∨ (k = 6 ∧ i = t ∧ j = 3) ∨ (k = 1 ∧ (35 + 6 * t ≤ i ∧ i < 41 + 6 * t ∨ 47 + 6 * t ≤ i ∧ i < 53 + 6 * t) ∧ j = 1) ∨ (k = 2 ∧ (35 + 6 * t ≤ i ∧ i < 41 + 6 * t ∨ 47 + 6 * t ≤ i ∧ i < 53 + 6 * t))) m0 m31 := zfr_tr hFm24 hEm31 (fun k i j z => Or.elim z (fun z => (show (k = 7 ∧ i = t) ∨ (k = 8 ∧ i = t) ∨ (k = 6 ∧ i = t ∧ j = 3) ∨ (k = 1 ∧ (35 + 6 * t ≤ i ∧ i < 41 + 6 * t ∨ 47 + 6 * t ≤ i ∧ i < 53 + 6 * t) ∧ j = 1) ∨ (k = 2 ∧ (35 + 6 * t ≤ i ∧ i < 41 + 6 * t ∨ 47 + 6 * t ≤ i ∧ i < 53 + 6 * t)) from Or.inr (Or.inr (Or.inr (Or.inl ((show k = 1 ∧ (35 + 6 * t ≤ i ∧ i < 41 + 6 * t ∨ 47 + 6 * t ≤ i ∧ i < 53 + 6 * t) ∧ j = 1 from by omega))))))) (fun z => (show (k = 7 ∧ i = t) ∨ (k = 8 ∧ i = t) ∨ (k = 6 ∧ i = t ∧ j = 3) ∨ (k = 1 ∧ (35 + 6 * t ≤ i ∧ i < 41 + 6 * t ∨ 47 + 6 * t ≤ i ∧ i < 53 + 6 * t) ∧ j = 1) ∨ (k = 2 ∧ (35 + 6 * t ≤ i ∧ i < 41 + 6 * t ∨ 47 + 6 * t ≤ i ∧ i < 53 + 6 * t)) from Or.inr (Or.inr (Or.inr (Or.inr ((show k = 2 ∧ (35 + 6 * t ≤ i ∧ i < 41 + 6 * t ∨ 47 + 6 * t ≤ i ∧ i < 53 + 6 * t) from by omega))))))))
      have w32 : m31.1 6 t 3 = m24.1 6 t 3 := (hEm31 6 t 3 (show ¬ ((6 = 1 ∧ t = (m24.2.2 7 t r1.toNat) ∧ 3 = 1) ∨ (6 = 2 ∧ t = (m24.2.2 7 t r1.toNat))) from by omega)).1
      have w33 : m31.1 1 s 1 = m24.1 1 s 1 := (hEm31 1 s 1 (show ¬ ((1 = 1 ∧ s = (m24.2.2 7 t r1.toNat) ∧ 1 = 1) ∨ (1 = 2 ∧ s = (m24.2.2 7 t r1.toNat))) from by omega)).1
      have w34 : m31.1 1 u 1 = m24.1 1 u 1 := (hEm31 1 u 1 (show ¬ ((1 = 1 ∧ u = (m24.2.2 7 t r1.toNat) ∧ 1 = 1) ∨ (1 = 2 ∧ u = (m24.2.2 7 t r1.toNat))) from by omega)).1
      show wW (zK sc) zM61 55 [(3, .inl r1), (0, .inr (.inr (.inl (some (6, t))))), (1, .inr (.inr (.inl (some (1, s))))), (2, .inr (.inr (.inl (some (1, u)))))] [] _ _ _
      have zr8 : zlim (m24.2.2 7 t r1.toNat) = 6 := zlim_n (t := t) (by omega) (by omega)
      have b35 := (hGm31).2 t r1.toNat (by omega) (by omega)
      refine ww_go 5 (pc' := 62) (L' := [(3, .inl r1), (0, .inr (.inr (.inl (some (6, t))))), (1, .inr (.inr (.inl (some (1, s))))), (2, .inr (.inr (.inl (some (1, u)))))]) (st' := [.inr (.inr (.inl (some (1, u)))), .inr (.inr (.inl (some (1, m31.2.2 8 t r1.toNat))))]) (m' := m31) (o := some ((t < 2) ∧ (t < 2 ∧ 0 ≤ r1 ∧ r1 < ((6 : Nat) : Int)))) rfl (show (t < 2) ∧ (t < 2 ∧ 0 ≤ r1 ∧ r1 < ((6 : Nat) : Int)) from by omega) ?_
      refine ww_call (vs := [.inr (.inr (.inl (some (1, m31.2.2 8 t r1.toNat)))), .inr (.inr (.inl (some (1, u))))]) (r := []) (p := m31.2.2 8 t r1.toNat < 171) rfl rfl rfl rfl (show m31.2.2 8 t r1.toNat < 171 from by omega) (zs32 (c := c) (by omega) (m31.2.2 8 t r1.toNat) u hGm31 (by omega)) ?_
      rintro _ _ m38 ⟨rfl, rfl, hGm38, hEm38, hr37⟩
      have hFm38 : zfr (fun k i j => (k = 7 ∧ i = t) ∨ (k = 8 ∧ i = t) ∨ (k = 6 ∧ i = t ∧ j = 3) ∨ (k = 1 ∧ (35 + 6 * t ≤ i ∧ i < 41 + 6 * t ∨ 47 + 6 * t ≤ i ∧ i < 53 + 6 * t) ∧ j = 1) ∨ (k = 2 ∧ (35 + 6 * t ≤ i ∧ i < 41 + 6 * t ∨ 47 + 6 * t ≤ i ∧ i < 53 + 6 * t))) m0 m38 := zfr_tr hFm31 hEm38 (fun k i j z => Or.elim z (fun z => (show (k = 7 ∧ i = t) ∨ (k = 8 ∧ i = t) ∨ (k = 6 ∧ i = t ∧ j = 3) ∨ (k = 1 ∧ (35 + 6 * t ≤ i ∧ i < 41 + 6 * t ∨ 47 + 6 * t ≤ i ∧ i < 53 + 6 * t) ∧ j = 1) ∨ (k = 2 ∧ (35 + 6 * t ≤ i ∧ i < 41 + 6 * t ∨ 47 + 6 * t ≤ i ∧ i < 53 + 6 * t)) from Or.inr (Or.inr (Or.inr (Or.inl ((show k = 1 ∧ (35 + 6 * t ≤ i ∧ i < 41 + 6 * t ∨ 47 + 6 * t ≤ i ∧ i < 53 + 6 * t) ∧ j = 1 from by omega))))))) (fun z => (show (k = 7 ∧ i = t) ∨ (k = 8 ∧ i = t) ∨ (k = 6 ∧ i = t ∧ j = 3) ∨ (k = 1 ∧ (35 + 6 * t ≤ i ∧ i < 41 + 6 * t ∨ 47 + 6 * t ≤ i ∧ i < 53 + 6 * t) ∧ j = 1) ∨ (k = 2 ∧ (35 + 6 * t ≤ i ∧ i < 41 + 6 * t ∨ 47 + 6 * t ≤ i ∧ i < 53 + 6 * t)) from Or.inr (Or.inr (Or.inr (Or.inr ((show k = 2 ∧ (35 + 6 * t ≤ i ∧ i < 41 + 6 * t ∨ 47 + 6 * t ≤ i ∧ i < 53 + 6 * t) from by omega))))))))
      have w39 : m38.1 6 t 3 = m31.1 6 t 3 := (hEm38 6 t 3 (show ¬ ((6 = 1 ∧ t = (m31.2.2 8 t r1.toNat) ∧ 3 = 1) ∨ (6 = 2 ∧ t = (m31.2.2 8 t r1.toNat))) from by omega)).1
      have w40 : m38.1 1 s 1 = m31.1 1 s 1 := (hEm38 1 s 1 (show ¬ ((1 = 1 ∧ s = (m31.2.2 8 t r1.toNat) ∧ 1 = 1) ∨ (1 = 2 ∧ s = (m31.2.2 8 t r1.toNat))) from by omega)).1
      have w41 : m38.1 1 u 1 = m31.1 1 u 1 := (hEm38 1 u 1 (show ¬ ((1 = 1 ∧ u = (m31.2.2 8 t r1.toNat) ∧ 1 = 1) ∨ (1 = 2 ∧ u = (m31.2.2 8 t r1.toNat))) from by omega)).1
      show wW (zK sc) zM61 65 [(3, .inl r1), (0, .inr (.inr (.inl (some (6, t))))), (1, .inr (.inr (.inl (some (1, s))))), (2, .inr (.inr (.inl (some (1, u)))))] [] _ _ _
      have zr9 : zlim (m31.2.2 8 t r1.toNat) = 96 := zlim_d (t := t) (by omega) (by omega)
      have b42 : 0 ≤ m38.1 6 t 3 ∧ m38.1 6 t 3 ≤ 6 := hGm38.1 6 _ rfl _ _
      refine ww_go 2 (pc' := 69) (L' := [(3, .inl r1), (0, .inr (.inr (.inl (some (6, t))))), (1, .inr (.inr (.inl (some (1, s))))), (2, .inr (.inr (.inl (some (1, u)))))]) (st' := [.inl (m38.1 6 t 3)]) (m' := m38) (o := some ((t < 2))) rfl (show (t < 2) from by omega) ?_
      have hF2 : zfr (fun k i j => k = 6) m19 m24 := by rw [hm24]; exact zfr_wI zfr_rf rfl
      have zp9 := zPut_c2 (n' := m38.1 6 t 3) (by omega) (by omega) (by omega) hG hD hr2.2.2 (hr4.elim (fun z => absurd z.1 (by omega)) (fun z => z.2)) (by omega) (by omega) hr18 hEm19 (fun k i j z => by have z9 : (k = 7 ∧ i = t) ∨ (k = 8 ∧ i = t) := z; omega) hF2 (fun k i j z => z) hEm31 (fun k i j z => by have z9 : (k = 1 ∧ i = (m24.2.2 7 t r1.toNat) ∧ j = 1) ∨ (k = 2 ∧ i = (m24.2.2 7 t r1.toNat)) := z; omega) (hr30.2 (by rw [zr8]; omega)) hEm38 (fun k i j z => by have z9 : (k = 1 ∧ i = (m31.2.2 8 t r1.toNat) ∧ j = 1) ∨ (k = 2 ∧ i = (m31.2.2 8 t r1.toNat)) := z; omega) (hr37.2 (by rw [zr9]; omega))
      exact ww_rI rfl rfl ⟨_, rfl, rfl, zB_mono hGm38 (by omega), hFm38, ⟨by omega, by omega, (by rw [show m38.1 6 t 3 = m0.1 6 t 3 + 1 from by omega]; have z9 := zp9.1; rw [show m38.1 6 t 3 = m0.1 6 t 3 + 1 from by omega] at z9; exact z9), zp9.2⟩⟩
    · show wW (zK sc) zM61 24 [(3, .inl r1), (0, .inr (.inr (.inl (some (6, t))))), (1, .inr (.inr (.inl (some (1, s))))), (2, .inr (.inr (.inl (some (1, u)))))] [] _ _ _
      refine ww_go 1 (pc' := 25) (L' := [(3, .inl r1), (0, .inr (.inr (.inl (some (6, t))))), (1, .inr (.inr (.inl (some (1, s))))), (2, .inr (.inr (.inl (some (1, u)))))]) (st' := [.inl 0]) (m' := m0) (o := none) rfl trivial ?_
      exact ww_rI rfl rfl ⟨_, rfl, rfl, zB_mono hG (by omega), hF, ⟨by omega, by omega, ⟨_, hr2.2.2, Or.inr (Or.inl ⟨(hr4.elim (fun z => absurd z.1 (by omega)) (fun z => z.2)), by omega, rfl, rfl, fun x _ => rfl⟩)⟩, hD⟩⟩
set_option maxRecDepth 8000 in
/-- Folder.takeOut -/
theorem zs62 {sc : xSc} {n : Nat × Nat} {m0 : wm} {c : Int} (hc : 0 ≤ c ∧ c ≤ 1000000) (t : Nat) (s : Nat) (hG : zB c m0) (h0 : t < 2 ∧ s < 171) (hD : zDi m0) : wX (zK sc) 62 [.inr (.inr (.inl (some (6, t)))), .inr (.inr (.inl (some (1, s))))] n m0 (wr (fun vv n1 m1 => ∃ r : Int, vv = some (.inl r) ∧ n = n1 ∧ zB c m1 ∧ zfr (fun k i j => (k = 7 ∧ i = t) ∨ (k = 8 ∧ i = t) ∨ (k = 6 ∧ i = t ∧ j = 3)) m0 m1 ∧ (0 ≤ r ∧ r ≤ 1 ∧ zTake (zCF m0 t) (m0.1 6 t 3) (zBR m0 s) (zCF m1 t) (m1.1 6 t 3) r ∧ zDi m1))) := by
  refine wX_of (N := zM62) rfl (Nat.le_of_ble_eq_true rfl) ?_
  show wW (zK sc) zM62 0 [(0, .inr (.inr (.inl (some (6, t))))), (1, .inr (.inr (.inl (some (1, s)))))] [] n m0 _
  have hF : zfr (fun k i j => (k = 7 ∧ i = t) ∨ (k = 8 ∧ i = t) ∨ (k = 6 ∧ i = t ∧ j = 3)) m0 m0 := zfr_rf
  have bf : 0 ≤ m0.1 6 t 3 ∧ m0.1 6 t 3 ≤ 6 := hG.1 6 _ rfl _ _
  refine ww_go 2 (pc' := 2) (L' := [(0, .inr (.inr (.inl (some (6, t))))), (1, .inr (.inr (.inl (some (1, s)))))]) (st' := [.inr (.inr (.inl (some (1, s)))), .inr (.inr (.inl (some (6, t))))]) (m' := m0) (o := none) rfl trivial ?_
  refine ww_call (vs := [.inr (.inr (.inl (some (6, t)))), .inr (.inr (.inl (some (1, s))))]) (r := []) (p := t < 2) rfl rfl rfl rfl (show t < 2 from by omega) (zs60 (c := c) (by omega) t s hG (by omega)) ?_
  rintro _ _ _ ⟨r1, rfl, rfl, rfl, hr2⟩
  show wW (zK sc) zM62 5 [(0, .inr (.inr (.inl (some (6, t))))), (1, .inr (.inr (.inl (some (1, s)))))] [.inl r1] _ _ _
  refine ww_go 4 (pc' := 9) (L' := [(2, .inl r1), (0, .inr (.inr (.inl (some (6, t))))), (1, .inr (.inr (.inl (some (1, s)))))]) (st' := [.inr (.inr (.inl (some (1, s)))), .inl r1, .inr (.inr (.inl (some (6, t))))]) (m' := m0) (o := none) rfl trivial ?_
  refine ww_call (vs := [.inr (.inr (.inl (some (6, t)))), .inl r1, .inr (.inr (.inl (some (1, s))))]) (r := []) (p := t < 2) rfl rfl rfl rfl (show t < 2 from by omega) (zs56 (c := c) (by omega) r1 t s hG (by omega)) ?_
  rintro _ _ _ ⟨r3, rfl, rfl, rfl, hr4⟩
  show wW (zK sc) zM62 12 [(2, .inl r1), (0, .inr (.inr (.inl (some (6, t))))), (1, .inr (.inr (.inl (some (1, s)))))] [.inl r3] _ _ _
  refine ww_if (t := 17) rfl rfl (by omega) (fun (h5 : r3 ≠ 0) => ?_) (fun (h5 : ¬ (r3 ≠ 0)) => ?_)
  · show wW (zK sc) zM62 17 [(2, .inl r1), (0, .inr (.inr (.inl (some (6, t))))), (1, .inr (.inr (.inl (some (1, s)))))] [] _ _ _
    have b6 : 0 ≤ m0.1 6 t 3 ∧ m0.1 6 t 3 ≤ 6 := hG.1 6 _ rfl _ _
    refine ww_go 6 (pc' := 25) (L' := [(2, .inl r1), (0, .inr (.inr (.inl (some (6, t))))), (1, .inr (.inr (.inl (some (1, s)))))]) (st' := [.inl ((m0.1 6 t 3) - 1), .inl r1, .inr (.inr (.inl (some (6, t))))]) (m' := m0) (o := some ((t < 2))) rfl (show (t < 2) from by omega) ?_
    refine ww_call (vs := [.inr (.inr (.inl (some (6, t)))), .inl r1, .inl ((m0.1 6 t 3) - 1)]) (r := []) (p := t < 2) rfl rfl rfl rfl (show t < 2 from by omega) (zs58 (c := c) (by omega) r1 ((m0.1 6 t 3) - 1) t hG (by omega)) ?_
    rintro _ _ m9 ⟨rfl, rfl, hGm9, hEm9, hr8⟩
    have hFm9 : zfr (fun k i j => (k = 7 ∧ i = t) ∨ (k = 8 ∧ i = t) ∨ (k = 6 ∧ i = t ∧ j = 3)) m0 m9 := zfr_tr hF hEm9 (fun k i j z => Or.elim z (fun z => Or.inl z) (fun z => Or.inr (Or.inl z)))
    have w10 : m9.1 6 t 3 = m0.1 6 t 3 := (hEm9 6 t 3 (show ¬ ((6 = 7 ∧ t = t) ∨ (6 = 8 ∧ t = t)) from by omega)).1
    show wW (zK sc) zM62 28 [(2, .inl r1), (0, .inr (.inr (.inl (some (6, t))))), (1, .inr (.inr (.inl (some (1, s)))))] [] _ _ _
    have b11 : 0 ≤ m9.1 6 t 3 ∧ m9.1 6 t 3 ≤ 6 := hGm9.1 6 _ rfl _ _
    refine ww_go 6 (pc' := 38) (L' := [(2, .inl r1), (0, .inr (.inr (.inl (some (6, t))))), (1, .inr (.inr (.inl (some (1, s)))))]) (st' := []) (m' := wuI m9 6 t 3 ((m9.1 6 t 3) - 1)) (o := some ((t < 2) ∧ (t < 2))) rfl (show (t < 2) ∧ (t < 2) from by omega) ?_
    obtain ⟨m12, hm12⟩ : ∃ zq9 : wm, zq9 = wuI m9 6 t 3 ((m9.1 6 t 3) - 1) := ⟨_, rfl⟩
    rw [← hm12]
    have hGm12 : zB c m12 := by rw [hm12]; exact zB_wI rfl (show 0 ≤ (m9.1 6 t 3) - 1 ∧ (m9.1 6 t 3) - 1 ≤ 6 from by omega) hGm9
    have hFm12 : zfr (fun k i j => (k = 7 ∧ i = t) ∨ (k = 8 ∧ i = t) ∨ (k = 6 ∧ i = t ∧ j = 3)) m0 m12 := by rw [hm12]; exact zfr_wI hFm9 (show (6 = 7 ∧ t = t) ∨ (6 = 8 ∧ t = t) ∨ (6 = 6 ∧ t = t ∧ 3 = 3) from Or.inr (Or.inr ((show (6 = 6 ∧ t = t ∧ 3 = 3) from by omega))))
    have s13 : m12.1 6 t 3 = (m9.1 6 t 3) - 1 := by rw [hm12]; exact wuI_self
    refine ww_go 1 (pc' := 39) (L' := [(2, .inl r1), (0, .inr (.inr (.inl (some (6, t))))), (1, .inr (.inr (.inl (some (1, s)))))]) (st' := [.inl 1]) (m' := m12) (o := none) rfl trivial ?_
    have hF2 : zfr (fun k i j => k = 6) m9 m12 := by rw [hm12]; exact zfr_wI zfr_rf rfl
    have zp9 := zTake_c (n' := m12.1 6 t 3) hD hr2.2.2 (hr4.elim (fun z => z.2.2) (fun z => absurd z.1 (by omega))) (by omega) (by omega) hr8 hEm9 (fun k i j z => by have z9 : (k = 7 ∧ i = t) ∨ (k = 8 ∧ i = t) := z; omega) hF2 (fun k i j z => z)
    exact ww_rB rfl rfl (by omega) ⟨_, rfl, rfl, zB_mono hGm12 (by omega), hFm12, ⟨by omega, by omega, zp9.1, zp9.2⟩⟩
  · show wW (zK sc) zM62 15 [(2, .inl r1), (0, .inr (.inr (.inl (some (6, t))))), (1, .inr (.inr (.inl (some (1, s)))))] [] _ _ _
    refine ww_go 1 (pc' := 16) (L' := [(2, .inl r1), (0, .inr (.inr (.inl (some (6, t))))), (1, .inr (.inr (.inl (some (1, s)))))]) (st' := [.inl 0]) (m' := m0) (o := none) rfl trivial ?_
    exact ww_rB rfl rfl (by omega) ⟨_, rfl, rfl, zB_mono hG (by omega), hF, ⟨by omega, by omega, ⟨_, hr2.2.2, Or.inr ⟨(hr4.elim (fun z => absurd z.1 (by omega)) (fun z => z.2)), rfl, rfl, fun x _ => rfl⟩⟩, hD⟩⟩
set_option maxRecDepth 8000 in
/-- Folder.edition -/
theorem zs54 {sc : xSc} {n : Nat × Nat} {m : wm} {c : Int} (hc : 0 ≤ c ∧ c ≤ 1000000) (x : Int) (t : Nat) (hG : zB c m) (h0 : t < 2 ∧ -1000000 ≤ x ∧ x ≤ 1000000) : wX (zK sc) 54 [.inr (.inr (.inl (some (6, t)))), .inl x] n m (wr (fun vv n1 m1 => ∃ r : Option (Nat × Nat), vv = some (.inr (.inr (.inl r))) ∧ n = n1 ∧ m = m1 ∧ ((r = none ∧ (x < 0 ∨ 2 < x ∨ m.1 6 t 4 - x < 1)) ∨ ∃ e : Nat, r = some (10, e) ∧ (e < 6 ∧ 0 ≤ x ∧ x ≤ 2 ∧ 1 ≤ m.1 6 t 4 - x ∧ e = 3 * t + ((m.1 6 t 4 - x) % 3).toNat)))) := by
  refine wX_of (N := zM54) rfl (Nat.le_of_ble_eq_true rfl) ?_
  show wW (zK sc) zM54 0 [(0, .inr (.inr (.inl (some (6, t))))), (1, .inl x)] [] n m _
  have b1 : 0 ≤ m.1 6 t 4 ∧ m.1 6 t 4 ≤ 1000 := hG.1 6 _ rfl _ _
  refine ww_go 5 (pc' := 7) (L' := [(0, .inr (.inr (.inl (some (6, t))))), (1, .inl x)]) (st' := [.inl 1, .inl ((m.1 6 t 4) - x)]) (m' := m) (o := some ((t < 2))) rfl (show (t < 2) from by omega) ?_
  refine ww_ic (t := 35) rfl rfl (by omega) (fun (h2 : (m.1 6 t 4) - x < 1) => ?_) (fun (h2 : ¬ ((m.1 6 t 4) - x < 1)) => ?_)
  · show wW (zK sc) zM54 35 [(0, .inr (.inr (.inl (some (6, t))))), (1, .inl x)] [] _ _ _
    refine ww_go 1 (pc' := 36) (L' := [(0, .inr (.inr (.inl (some (6, t))))), (1, .inl x)]) (st' := [.inr (.inr (.inl none))]) (m' := m) (o := none) rfl trivial ?_
    exact ww_rA rfl rfl ⟨_, rfl, rfl, rfl, Or.inl ⟨rfl, by omega⟩⟩
  · show wW (zK sc) zM54 10 [(0, .inr (.inr (.inl (some (6, t))))), (1, .inl x)] [] _ _ _
    refine ww_go 1 (pc' := 11) (L' := [(0, .inr (.inr (.inl (some (6, t))))), (1, .inl x)]) (st' := [.inl x]) (m' := m) (o := none) rfl trivial ?_
    refine ww_if (t := 35) rfl rfl (by omega) (fun (h3 : x < 0) => ?_) (fun (h3 : ¬ (x < 0)) => ?_)
    · show wW (zK sc) zM54 35 [(0, .inr (.inr (.inl (some (6, t))))), (1, .inl x)] [] _ _ _
      refine ww_go 1 (pc' := 36) (L' := [(0, .inr (.inr (.inl (some (6, t))))), (1, .inl x)]) (st' := [.inr (.inr (.inl none))]) (m' := m) (o := none) rfl trivial ?_
      exact ww_rA rfl rfl ⟨_, rfl, rfl, rfl, Or.inl ⟨rfl, by omega⟩⟩
    · show wW (zK sc) zM54 14 [(0, .inr (.inr (.inl (some (6, t))))), (1, .inl x)] [] _ _ _
      refine ww_go 2 (pc' := 16) (L' := [(0, .inr (.inr (.inl (some (6, t))))), (1, .inl x)]) (st' := [.inl 3, .inl x]) (m' := m) (o := none) rfl trivial ?_
      refine ww_ic (t := 35) rfl rfl (by omega) (fun (h4 : 3 ≤ x) => ?_) (fun (h4 : ¬ (3 ≤ x)) => ?_)
      · show wW (zK sc) zM54 35 [(0, .inr (.inr (.inl (some (6, t))))), (1, .inl x)] [] _ _ _
        refine ww_go 1 (pc' := 36) (L' := [(0, .inr (.inr (.inl (some (6, t))))), (1, .inl x)]) (st' := [.inr (.inr (.inl none))]) (m' := m) (o := none) rfl trivial ?_
        exact ww_rA rfl rfl ⟨_, rfl, rfl, rfl, Or.inl ⟨rfl, by omega⟩⟩
      · show wW (zK sc) zM54 19 [(0, .inr (.inr (.inl (some (6, t))))), (1, .inl x)] [] _ _ _
        have b5 : 0 ≤ m.1 6 t 4 ∧ m.1 6 t 4 ≤ 1000 := hG.1 6 _ rfl _ _
        have t6 : (0 ≤ ((m.1 6 t 4) - x) → ((m.1 6 t 4) - x).tmod 3 = ((m.1 6 t 4) - x) % 3) ∧ (((m.1 6 t 4) - x) < 0 → ((m.1 6 t 4) - x).tmod 3 = -((-(((m.1 6 t 4) - x))) % 3)) := ⟨fun z => Int.tmod_eq_emod_of_nonneg z, fun z => wtmod_neg z⟩
        refine ww_go 10 (pc' := 36) (L' := [(0, .inr (.inr (.inl (some (6, t))))), (1, .inl x)]) (st' := [.inr (.inr (.inl (some (10, 3 * t + ((((m.1 6 t 4) - x).tmod 3).toNat)))))]) (m' := m) (o := some ((t < 2) ∧ (t < 2) ∧ (-2147483648 ≤ (m.1 6 t 4) - x ∧ (m.1 6 t 4) - x ≤ 2147483647 ∧ 0 < (3 : Int) ∧ (3 : Int) ≤ 2147483647) ∧ (t < 2 ∧ 0 ≤ ((m.1 6 t 4) - x).tmod 3 ∧ ((m.1 6 t 4) - x).tmod 3 < ((3 : Nat) : Int)))) rfl (show (t < 2) ∧ (t < 2) ∧ (-2147483648 ≤ (m.1 6 t 4) - x ∧ (m.1 6 t 4) - x ≤ 2147483647 ∧ 0 < (3 : Int) ∧ (3 : Int) ≤ 2147483647) ∧ (t < 2 ∧ 0 ≤ ((m.1 6 t 4) - x).tmod 3 ∧ ((m.1 6 t 4) - x).tmod 3 < ((3 : Nat) : Int)) from by omega) ?_
        exact ww_rA rfl rfl ⟨_, rfl, rfl, rfl, Or.inr ⟨_, rfl, by omega⟩⟩
set_option maxRecDepth 8000 in
theorem zs50_l49 {sc : xSc} {n : Nat × Nat} {m0 : wm} {c : Int} (hc : 0 ≤ c ∧ c ≤ 1000000) (x : Int) (t : Nat) (s : Nat) (hG : zB c m0) (h0 : t < 6 ∧ s < 2 ∧ 0 ≤ x ∧ x ≤ 1000) : ∀ (d : Nat), ∀ (y : Int) (m : wm), (6 - y).toNat = d → zB c m → zfr (fun k i j => (k = 10 ∧ i = t) ∨ (k = 1 ∧ 59 + 7 * t ≤ i ∧ i < 66 + 7 * t ∧ j = 1) ∨ (k = 2 ∧ 59 + 7 * t ≤ i ∧ i < 66 + 7 * t)) m0 m → (0 ≤ y ∧ y ≤ m0.1 6 s 3) → (m.1 10 t 2 = m0.1 6 s 3 + 1 ∧ m.1 10 t 1 = x ∧ m.1 6 s 3 = m0.1 6 s 3) → (m.1 1 (59 + 7 * t + 0) 1 ≤ 3 + 16 * y) → (zBR m (59 + 7 * t + 0) = zLs (zML x (m0.1 6 s 3) (zCF m0 s) y.toNat)) → (∀ q : Nat, (q : Int) < y → zBR m (59 + 7 * t + (q + 1)) = (zCF m0 s q).2) →  wW (zK sc) zM50 49 [(0, .inr (.inr (.inl (some (10, t))))), (2, .inr (.inr (.inl (some (6, s))))), (3, .inr (.inr (.inl (some (1, 59 + 7 * t + 0))))), (4, .inl y)] [] n m (wr (fun vv n1 m1 => vv = none ∧ n = n1 ∧ zB c m1 ∧ zfr (fun k i j => (k = 10 ∧ i = t) ∨ (k = 1 ∧ 59 + 7 * t ≤ i ∧ i < 66 + 7 * t ∧ j = 1) ∨ (k = 2 ∧ 59 + 7 * t ≤ i ∧ i < 66 + 7 * t)) m0 m1 ∧ (zRec m0 m1 t s x))) := by
  intro d
  induction d using Nat.strongRecOn with
  | ind d ih =>
    intro y m hd hGm hFm hi hm hz hM hI
    have zl0 : zlim (59 + 7 * t + 0) = 104 := zlim_e (by omega) (by omega)
    have bf : 0 ≤ m0.1 6 s 3 ∧ m0.1 6 s 3 ≤ 6 := hG.1 6 _ rfl _ _
    have zl1 : y ≤ 5 → zlim (59 + 7 * t + (y + 1).toNat) = 104 := fun z => zlim_e (by omega) (by omega)
    refine ww_go 2 (pc' := 52) (L' := [(0, .inr (.inr (.inl (some (10, t))))), (2, .inr (.inr (.inl (some (6, s))))), (3, .inr (.inr (.inl (some (1, 59 + 7 * t + 0))))), (4, .inl y)]) (st' := [.inr (.inr (.inl (some (6, s)))), .inl y]) (m' := m) (o := none) rfl trivial ?_
    refine ww_call (vs := [.inr (.inr (.inl (some (6, s))))]) (r := [.inl y]) (p := s < 2) rfl rfl rfl rfl (show s < 2 from by omega) (zs55 (c := c) (by omega) s hGm (by omega)) ?_
    rintro _ _ _ ⟨r1, rfl, rfl, rfl, hr2⟩
    show wW (zK sc) zM50 55 [(0, .inr (.inr (.inl (some (10, t))))), (2, .inr (.inr (.inl (some (6, s))))), (3, .inr (.inr (.inl (some (1, 59 + 7 * t + 0))))), (4, .inl y)] [.inl r1, .inl y] _ _ _
    refine ww_ic (t := 138) rfl rfl (by omega) (fun (h3 : r1 ≤ y) => ?_) (fun (h3 : ¬ (r1 ≤ y)) => ?_)
    · show wW (zK sc) zM50 138 [(0, .inr (.inr (.inl (some (10, t))))), (2, .inr (.inr (.inl (some (6, s))))), (3, .inr (.inr (.inl (some (1, 59 + 7 * t + 0))))), (4, .inl y)] [] _ _ _
      exact ww_rV rfl rfl ⟨rfl, rfl, zB_mono hGm (by omega), hFm, ⟨by omega, by omega, (by have z9 := hM; rw [show y.toNat = (m0.1 6 s 3).toNat from by omega] at z9; exact z9), fun q hq => hI q (by omega), fun q hq hn => ⟨(hFm 10 q 1 (show ¬ ((10 = 10 ∧ q = t) ∨ (10 = 1 ∧ 59 + 7 * t ≤ q ∧ q < 66 + 7 * t ∧ 1 = 1) ∨ (10 = 2 ∧ 59 + 7 * t ≤ q ∧ q < 66 + 7 * t)) from by omega)).1, (hFm 10 q 2 (show ¬ ((10 = 10 ∧ q = t) ∨ (10 = 1 ∧ 59 + 7 * t ≤ q ∧ q < 66 + 7 * t ∧ 2 = 1) ∨ (10 = 2 ∧ 59 + 7 * t ≤ q ∧ q < 66 + 7 * t)) from by omega)).1, fun i hi => zBR_fr hFm (show ¬ ((1 = 10 ∧ (59 + 7 * q + i) = t) ∨ (1 = 1 ∧ 59 + 7 * t ≤ (59 + 7 * q + i) ∧ (59 + 7 * q + i) < 66 + 7 * t ∧ 1 = 1) ∨ (1 = 2 ∧ 59 + 7 * t ≤ (59 + 7 * q + i) ∧ (59 + 7 * q + i) < 66 + 7 * t)) from by omega) (fun j => (show ¬ ((2 = 10 ∧ (59 + 7 * q + i) = t) ∨ (2 = 1 ∧ 59 + 7 * t ≤ (59 + 7 * q + i) ∧ (59 + 7 * q + i) < 66 + 7 * t ∧ j = 1) ∨ (2 = 2 ∧ 59 + 7 * t ≤ (59 + 7 * q + i) ∧ (59 + 7 * q + i) < 66 + 7 * t)) from by omega))⟩⟩⟩
    · show wW (zK sc) zM50 58 [(0, .inr (.inr (.inl (some (10, t))))), (2, .inr (.inr (.inl (some (6, s))))), (3, .inr (.inr (.inl (some (1, 59 + 7 * t + 0))))), (4, .inl y)] [] _ _ _
      refine ww_go 10 (pc' := 74) (L' := [(5, .inr (.inr (.inl (some (1, 59 + 7 * t + ((y + 1).toNat)))))), (0, .inr (.inr (.inl (some (10, t))))), (2, .inr (.inr (.inl (some (6, s))))), (3, .inr (.inr (.inl (some (1, 59 + 7 * t + 0))))), (4, .inl y)]) (st' := [.inl y, .inr (.inr (.inl (some (6, s)))), .inr (.inr (.inl (some (1, 59 + 7 * t + ((y + 1).toNat)))))]) (m' := m) (o := some ((t < 6) ∧ (t < 6 ∧ 0 ≤ y + 1 ∧ y + 1 < ((7 : Nat) : Int)))) rfl (show (t < 6) ∧ (t < 6 ∧ 0 ≤ y + 1 ∧ y + 1 < ((7 : Nat) : Int)) from by omega) ?_
      refine ww_call (vs := [.inr (.inr (.inl (some (6, s)))), .inl y]) (r := [.inr (.inr (.inl (some (1, 59 + 7 * t + ((y + 1).toNat)))))]) (p := s < 2) rfl rfl rfl rfl (show s < 2 from by omega) (zs53 (c := c) (by omega) y s hGm (by omega)) ?_
      rintro _ _ _ ⟨r4, rfl, rfl, rfl, hr5⟩
      have zb6 : 0 ≤ m.1 1 r4 1 ∧ m.1 1 r4 1 ≤ ((zlim r4 : Nat) : Int) := hGm.1 1 _ rfl _ _
      have zb7 : zlim r4 = 96 := zlim_d (t := s) (by omega) (by omega)
      have ze8r : r4 = m0.2.2 8 s y.toNat := hr5.1.trans (hFm 8 s y.toNat (show ¬ ((8 = 10 ∧ s = t) ∨ (8 = 1 ∧ 59 + 7 * t ≤ s ∧ s < 66 + 7 * t ∧ y.toNat = 1) ∨ (8 = 2 ∧ 59 + 7 * t ≤ s ∧ s < 66 + 7 * t)) from by omega)).2.2
      have ze8 : zBR m r4 = (zCF m0 s y.toNat).2 := by rw [ze8r]; exact zBR_fr hFm (show ¬ ((1 = 10 ∧ (m0.2.2 8 s y.toNat) = t) ∨ (1 = 1 ∧ 59 + 7 * t ≤ (m0.2.2 8 s y.toNat) ∧ (m0.2.2 8 s y.toNat) < 66 + 7 * t ∧ 1 = 1) ∨ (1 = 2 ∧ 59 + 7 * t ≤ (m0.2.2 8 s y.toNat) ∧ (m0.2.2 8 s y.toNat) < 66 + 7 * t)) from by omega) (fun j => (show ¬ ((2 = 10 ∧ (m0.2.2 8 s y.toNat) = t) ∨ (2 = 1 ∧ 59 + 7 * t ≤ (m0.2.2 8 s y.toNat) ∧ (m0.2.2 8 s y.toNat) < 66 + 7 * t ∧ j = 1) ∨ (2 = 2 ∧ 59 + 7 * t ≤ (m0.2.2 8 s y.toNat) ∧ (m0.2.2 8 s y.toNat) < 66 + 7 * t)) from by omega))
      have ze8s : m.1 1 r4 1 = (zCF m0 s y.toNat).2.1 := congrArg Prod.fst ze8
      show wW (zK sc) zM50 77 [(5, .inr (.inr (.inl (some (1, 59 + 7 * t + ((y + 1).toNat)))))), (0, .inr (.inr (.inl (some (10, t))))), (2, .inr (.inr (.inl (some (6, s))))), (3, .inr (.inr (.inl (some (1, 59 + 7 * t + 0))))), (4, .inl y)] [.inr (.inr (.inl (some (1, r4)))), .inr (.inr (.inl (some (1, 59 + 7 * t + ((y + 1).toNat)))))] _ _ _
      refine ww_call (vs := [.inr (.inr (.inl (some (1, 59 + 7 * t + ((y + 1).toNat))))), .inr (.inr (.inl (some (1, r4))))]) (r := []) (p := 59 + 7 * t + ((y + 1).toNat) < 171) rfl rfl rfl rfl (show 59 + 7 * t + ((y + 1).toNat) < 171 from by omega) (zs32 (c := c) (by omega) (59 + 7 * t + ((y + 1).toNat)) r4 hGm (by omega)) ?_
      rintro _ _ m11 ⟨rfl, rfl, hGm11, hEm11, hr10⟩
      have hFm11 : zfr (fun k i j => (k = 10 ∧ i = t) ∨ (k = 1 ∧ 59 + 7 * t ≤ i ∧ i < 66 + 7 * t ∧ j = 1) ∨ (k = 2 ∧ 59 + 7 * t ≤ i ∧ i < 66 + 7 * t)) m0 m11 := zfr_tr hFm hEm11 (fun k i j z => Or.elim z (fun z => (show (k = 10 ∧ i = t) ∨ (k = 1 ∧ 59 + 7 * t ≤ i ∧ i < 66 + 7 * t ∧ j = 1) ∨ (k = 2 ∧ 59 + 7 * t ≤ i ∧ i < 66 + 7 * t) from Or.inr (Or.inl ((show k = 1 ∧ 59 + 7 * t ≤ i ∧ i < 66 + 7 * t ∧ j = 1 from by omega))))) (fun z => (show (k = 10 ∧ i = t) ∨ (k = 1 ∧ 59 + 7 * t ≤ i ∧ i < 66 + 7 * t ∧ j = 1) ∨ (k = 2 ∧ 59 + 7 * t ≤ i ∧ i < 66 + 7 * t) from Or.inr (Or.inr ((show k = 2 ∧ 59 + 7 * t ≤ i ∧ i < 66 + 7 * t from by omega))))))
      have w12 : m11.1 10 t 2 = m.1 10 t 2 := (hEm11 10 t 2 (show ¬ ((10 = 1 ∧ t = (59 + 7 * t + ((y + 1).toNat)) ∧ 2 = 1) ∨ (10 = 2 ∧ t = (59 + 7 * t + ((y + 1).toNat)))) from by omega)).1
      have w13 : m11.1 10 t 1 = m.1 10 t 1 := (hEm11 10 t 1 (show ¬ ((10 = 1 ∧ t = (59 + 7 * t + ((y + 1).toNat)) ∧ 1 = 1) ∨ (10 = 2 ∧ t = (59 + 7 * t + ((y + 1).toNat)))) from by omega)).1
      have w14 : m11.1 6 s 3 = m.1 6 s 3 := (hEm11 6 s 3 (show ¬ ((6 = 1 ∧ s = (59 + 7 * t + ((y + 1).toNat)) ∧ 3 = 1) ∨ (6 = 2 ∧ s = (59 + 7 * t + ((y + 1).toNat)))) from by omega)).1
      show wW (zK sc) zM50 80 [(5, .inr (.inr (.inl (some (1, 59 + 7 * t + ((y + 1).toNat)))))), (0, .inr (.inr (.inl (some (10, t))))), (2, .inr (.inr (.inl (some (6, s))))), (3, .inr (.inr (.inl (some (1, 59 + 7 * t + 0))))), (4, .inl y)] [] _ _ _
      have zm15 : zBR m11 (59 + 7 * t + 0) = zLs (zML x (m0.1 6 s 3) (zCF m0 s) y.toNat) := (zBR_fr hEm11 (show ¬ ((1 = 1 ∧ (59 + 7 * t + 0) = (59 + 7 * t + ((y + 1).toNat)) ∧ 1 = 1) ∨ (1 = 2 ∧ (59 + 7 * t + 0) = (59 + 7 * t + ((y + 1).toNat)))) from by omega) (fun j => (show ¬ ((2 = 1 ∧ (59 + 7 * t + 0) = (59 + 7 * t + ((y + 1).toNat)) ∧ j = 1) ∨ (2 = 2 ∧ (59 + 7 * t + 0) = (59 + 7 * t + ((y + 1).toNat)))) from by omega))).trans hM
      have zcy : zBR m11 (59 + 7 * t + (y + 1).toNat) = (zCF m0 s y.toNat).2 := (hr10.2 (by omega)).trans ze8
      have w16 : m11.1 1 (59 + 7 * t + 0) 1 = m.1 1 (59 + 7 * t + 0) 1 := (hEm11 1 (59 + 7 * t + 0) 1 (show ¬ ((1 = 1 ∧ (59 + 7 * t + 0) = (59 + 7 * t + ((y + 1).toNat)) ∧ 1 = 1) ∨ (1 = 2 ∧ (59 + 7 * t + 0) = (59 + 7 * t + ((y + 1).toNat)))) from by omega)).1
      have zi17 : zfr (fun k i j => k = 1 ∧ (i = 59 + 7 * t + 0 ∨ i = 59 + 7 * t + (y + 1).toNat) ∧ j = 1 ∨ k = 2 ∧ (i = 59 + 7 * t + 0 ∨ i = 59 + 7 * t + (y + 1).toNat)) m m11 := zfr_tr zfr_rf hEm11 (fun k i j z => by have z9 : (k = 1 ∧ i = (59 + 7 * t + ((y + 1).toNat)) ∧ j = 1) ∨ (k = 2 ∧ i = (59 + 7 * t + ((y + 1).toNat))) := z; exact (show k = 1 ∧ (i = 59 + 7 * t + 0 ∨ i = 59 + 7 * t + (y + 1).toNat) ∧ j = 1 ∨ k = 2 ∧ (i = 59 + 7 * t + 0 ∨ i = 59 + 7 * t + (y + 1).toNat) from by omega))
      refine ww_go 3 (pc' := 84) (L' := [(5, .inr (.inr (.inl (some (1, 59 + 7 * t + ((y + 1).toNat)))))), (0, .inr (.inr (.inl (some (10, t))))), (2, .inr (.inr (.inl (some (6, s))))), (3, .inr (.inr (.inl (some (1, 59 + 7 * t + 0))))), (4, .inl y)]) (st' := [.inl y, .inr (.inr (.inl (some (6, s)))), .inr (.inr (.inl (some (1, 59 + 7 * t + 0))))]) (m' := m11) (o := none) rfl trivial ?_
      refine ww_call (vs := [.inr (.inr (.inl (some (6, s)))), .inl y]) (r := [.inr (.inr (.inl (some (1, 59 + 7 * t + 0))))]) (p := s < 2) rfl rfl rfl rfl (show s < 2 from by omega) (zs59 (c := c) (by omega) y s hGm11 (by omega)) ?_
      rintro _ _ _ ⟨r18, rfl, rfl, rfl, hr19⟩
      have zb20 : 0 ≤ m11.1 1 r18 1 ∧ m11.1 1 r18 1 ≤ ((zlim r18 : Nat) : Int) := hGm11.1 1 _ rfl _ _
      have zb21 : zlim r18 = 6 := zlim_n (t := s) (by omega) (by omega)
      have ze22r : r18 = m0.2.2 7 s y.toNat := hr19.1.trans (hFm11 7 s y.toNat (show ¬ ((7 = 10 ∧ s = t) ∨ (7 = 1 ∧ 59 + 7 * t ≤ s ∧ s < 66 + 7 * t ∧ y.toNat = 1) ∨ (7 = 2 ∧ 59 + 7 * t ≤ s ∧ s < 66 + 7 * t)) from by omega)).2.2
      have ze22 : zBR m11 r18 = (zCF m0 s y.toNat).1 := by rw [ze22r]; exact zBR_fr hFm11 (show ¬ ((1 = 10 ∧ (m0.2.2 7 s y.toNat) = t) ∨ (1 = 1 ∧ 59 + 7 * t ≤ (m0.2.2 7 s y.toNat) ∧ (m0.2.2 7 s y.toNat) < 66 + 7 * t ∧ 1 = 1) ∨ (1 = 2 ∧ 59 + 7 * t ≤ (m0.2.2 7 s y.toNat) ∧ (m0.2.2 7 s y.toNat) < 66 + 7 * t)) from by omega) (fun j => (show ¬ ((2 = 10 ∧ (m0.2.2 7 s y.toNat) = t) ∨ (2 = 1 ∧ 59 + 7 * t ≤ (m0.2.2 7 s y.toNat) ∧ (m0.2.2 7 s y.toNat) < 66 + 7 * t ∧ j = 1) ∨ (2 = 2 ∧ 59 + 7 * t ≤ (m0.2.2 7 s y.toNat) ∧ (m0.2.2 7 s y.toNat) < 66 + 7 * t)) from by omega))
      have ze22s : m11.1 1 r18 1 = (zCF m0 s y.toNat).1.1 := congrArg Prod.fst ze22
      show wW (zK sc) zM50 87 [(5, .inr (.inr (.inl (some (1, 59 + 7 * t + ((y + 1).toNat)))))), (0, .inr (.inr (.inl (some (10, t))))), (2, .inr (.inr (.inl (some (6, s))))), (3, .inr (.inr (.inl (some (1, 59 + 7 * t + 0))))), (4, .inl y)] [.inr (.inr (.inl (some (1, r18)))), .inr (.inr (.inl (some (1, 59 + 7 * t + 0))))] _ _ _
      refine ww_call (vs := [.inr (.inr (.inl (some (1, r18))))]) (r := [.inr (.inr (.inl (some (1, 59 + 7 * t + 0))))]) (p := r18 < 171) rfl rfl rfl rfl (show r18 < 171 from by omega) (zs40 (c := c) (by omega) r18 hGm11 (by omega)) ?_
      rintro _ _ _ ⟨r23, rfl, rfl, rfl, hr24⟩
      show wW (zK sc) zM50 90 [(5, .inr (.inr (.inl (some (1, 59 + 7 * t + ((y + 1).toNat)))))), (0, .inr (.inr (.inl (some (10, t))))), (2, .inr (.inr (.inl (some (6, s))))), (3, .inr (.inr (.inl (some (1, 59 + 7 * t + 0))))), (4, .inl y)] [.inl r23, .inr (.inr (.inl (some (1, 59 + 7 * t + 0))))] _ _ _
      refine ww_go 2 (pc' := 92) (L' := [(5, .inr (.inr (.inl (some (1, 59 + 7 * t + ((y + 1).toNat)))))), (0, .inr (.inr (.inl (some (10, t))))), (2, .inr (.inr (.inl (some (6, s))))), (3, .inr (.inr (.inl (some (1, 59 + 7 * t + 0))))), (4, .inl y)]) (st' := [.inl 1, .inr (.inl (wi2l r23)), .inr (.inr (.inl (some (1, 59 + 7 * t + 0))))]) (m' := m11) (o := none) rfl trivial ?_
      refine ww_call (vs := [.inr (.inr (.inl (some (1, 59 + 7 * t + 0)))), .inr (.inl (wi2l r23)), .inl 1]) (r := []) (p := 59 + 7 * t + 0 < 171) rfl rfl rfl rfl (show 59 + 7 * t + 0 < 171 from by omega) (zs26 (c := c) (by omega) (wi2l r23) 1 (59 + 7 * t + 0) hGm11 (by omega)) ?_
      rintro _ _ m27 ⟨rfl, rfl, hGm27, hEm27, hr26⟩
      have hFm27 : zfr (fun k i j => (k = 10 ∧ i = t) ∨ (k = 1 ∧ 59 + 7 * t ≤ i ∧ i < 66 + 7 * t ∧ j = 1) ∨ (k = 2 ∧ 59 + 7 * t ≤ i ∧ i < 66 + 7 * t)) m0 m27 := zfr_tr hFm11 hEm27 (fun k i j z => Or.elim z (fun z => (show (k = 10 ∧ i = t) ∨ (k = 1 ∧ 59 + 7 * t ≤ i ∧ i < 66 + 7 * t ∧ j = 1) ∨ (k = 2 ∧ 59 + 7 * t ≤ i ∧ i < 66 + 7 * t) from Or.inr (Or.inl ((show k = 1 ∧ 59 + 7 * t ≤ i ∧ i < 66 + 7 * t ∧ j = 1 from by omega))))) (fun z => (show (k = 10 ∧ i = t) ∨ (k = 1 ∧ 59 + 7 * t ≤ i ∧ i < 66 + 7 * t ∧ j = 1) ∨ (k = 2 ∧ 59 + 7 * t ≤ i ∧ i < 66 + 7 * t) from Or.inr (Or.inr ((show k = 2 ∧ 59 + 7 * t ≤ i ∧ i < 66 + 7 * t from by omega))))))
      have w28 : m27.1 10 t 2 = m11.1 10 t 2 := (hEm27 10 t 2 (show ¬ ((10 = 1 ∧ t = (59 + 7 * t + 0) ∧ 2 = 1) ∨ (10 = 2 ∧ t = (59 + 7 * t + 0))) from by omega)).1
      have w29 : m27.1 10 t 1 = m11.1 10 t 1 := (hEm27 10 t 1 (show ¬ ((10 = 1 ∧ t = (59 + 7 * t + 0) ∧ 1 = 1) ∨ (10 = 2 ∧ t = (59 + 7 * t + 0))) from by omega)).1
      have w30 : m27.1 6 s 3 = m11.1 6 s 3 := (hEm27 6 s 3 (show ¬ ((6 = 1 ∧ s = (59 + 7 * t + 0) ∧ 3 = 1) ∨ (6 = 2 ∧ s = (59 + 7 * t + 0))) from by omega)).1
      show wW (zK sc) zM50 95 [(5, .inr (.inr (.inl (some (1, 59 + 7 * t + ((y + 1).toNat)))))), (0, .inr (.inr (.inl (some (10, t))))), (2, .inr (.inr (.inl (some (6, s))))), (3, .inr (.inr (.inl (some (1, 59 + 7 * t + 0))))), (4, .inl y)] [] _ _ _
      have zm31 : zBR m27 (59 + 7 * t + 0) = zLs ((zML x (m0.1 6 s 3) (zCF m0 s) y.toNat) ++ zbl (wi2l r23) (1 : Int).toNat) := zLs_ap zm15 (hr26.2 (by omega) (by omega)) (by omega) (by omega)
      have zi32 : zfr (fun k i j => k = 1 ∧ (i = 59 + 7 * t + 0 ∨ i = 59 + 7 * t + (y + 1).toNat) ∧ j = 1 ∨ k = 2 ∧ (i = 59 + 7 * t + 0 ∨ i = 59 + 7 * t + (y + 1).toNat)) m m27 := zfr_tr zi17 hEm27 (fun k i j z => by have z9 : (k = 1 ∧ i = (59 + 7 * t + 0) ∧ j = 1) ∨ (k = 2 ∧ i = (59 + 7 * t + 0)) := z; exact (show k = 1 ∧ (i = 59 + 7 * t + 0 ∨ i = 59 + 7 * t + (y + 1).toNat) ∧ j = 1 ∨ k = 2 ∧ (i = 59 + 7 * t + 0 ∨ i = 59 + 7 * t + (y + 1).toNat) from by omega))
      have zj33 : zfr (fun k i j => k = 1 ∧ i = 59 + 7 * t + 0 ∧ j = 1 ∨ k = 2 ∧ i = 59 + 7 * t + 0) m11 m27 := zfr_tr zfr_rf hEm27 (fun k i j z => by have z9 : (k = 1 ∧ i = (59 + 7 * t + 0) ∧ j = 1) ∨ (k = 2 ∧ i = (59 + 7 * t + 0)) := z; exact (show k = 1 ∧ i = 59 + 7 * t + 0 ∧ j = 1 ∨ k = 2 ∧ i = 59 + 7 * t + 0 from by omega))
      have zy34 : zBR m27 (59 + 7 * t + (y + 1).toNat) = (zCF m0 s y.toNat).2 := (zBR_fr zj33 (show ¬ ((1 = 1 ∧ (59 + 7 * t + (y + 1).toNat) = 59 + 7 * t + 0 ∧ 1 = 1 ∨ 1 = 2 ∧ (59 + 7 * t + (y + 1).toNat) = 59 + 7 * t + 0)) from by omega) (fun j => (show ¬ ((2 = 1 ∧ (59 + 7 * t + (y + 1).toNat) = 59 + 7 * t + 0 ∧ j = 1 ∨ 2 = 2 ∧ (59 + 7 * t + (y + 1).toNat) = 59 + 7 * t + 0)) from by omega))).trans zcy
      refine ww_go 3 (pc' := 99) (L' := [(5, .inr (.inr (.inl (some (1, 59 + 7 * t + ((y + 1).toNat)))))), (0, .inr (.inr (.inl (some (10, t))))), (2, .inr (.inr (.inl (some (6, s))))), (3, .inr (.inr (.inl (some (1, 59 + 7 * t + 0))))), (4, .inl y)]) (st' := [.inl y, .inr (.inr (.inl (some (6, s)))), .inr (.inr (.inl (some (1, 59 + 7 * t + 0))))]) (m' := m27) (o := none) rfl trivial ?_
      refine ww_call (vs := [.inr (.inr (.inl (some (6, s)))), .inl y]) (r := [.inr (.inr (.inl (some (1, 59 + 7 * t + 0))))]) (p := s < 2) rfl rfl rfl rfl (show s < 2 from by omega) (zs59 (c := c) (by omega) y s hGm27 (by omega)) ?_
      rintro _ _ _ ⟨r35, rfl, rfl, rfl, hr36⟩
      have zb37 : 0 ≤ m27.1 1 r35 1 ∧ m27.1 1 r35 1 ≤ ((zlim r35 : Nat) : Int) := hGm27.1 1 _ rfl _ _
      have zb38 : zlim r35 = 6 := zlim_n (t := s) (by omega) (by omega)
      have ze39r : r35 = m0.2.2 7 s y.toNat := hr36.1.trans (hFm27 7 s y.toNat (show ¬ ((7 = 10 ∧ s = t) ∨ (7 = 1 ∧ 59 + 7 * t ≤ s ∧ s < 66 + 7 * t ∧ y.toNat = 1) ∨ (7 = 2 ∧ 59 + 7 * t ≤ s ∧ s < 66 + 7 * t)) from by omega)).2.2
      have ze39 : zBR m27 r35 = (zCF m0 s y.toNat).1 := by rw [ze39r]; exact zBR_fr hFm27 (show ¬ ((1 = 10 ∧ (m0.2.2 7 s y.toNat) = t) ∨ (1 = 1 ∧ 59 + 7 * t ≤ (m0.2.2 7 s y.toNat) ∧ (m0.2.2 7 s y.toNat) < 66 + 7 * t ∧ 1 = 1) ∨ (1 = 2 ∧ 59 + 7 * t ≤ (m0.2.2 7 s y.toNat) ∧ (m0.2.2 7 s y.toNat) < 66 + 7 * t)) from by omega) (fun j => (show ¬ ((2 = 10 ∧ (m0.2.2 7 s y.toNat) = t) ∨ (2 = 1 ∧ 59 + 7 * t ≤ (m0.2.2 7 s y.toNat) ∧ (m0.2.2 7 s y.toNat) < 66 + 7 * t ∧ j = 1) ∨ (2 = 2 ∧ 59 + 7 * t ≤ (m0.2.2 7 s y.toNat) ∧ (m0.2.2 7 s y.toNat) < 66 + 7 * t)) from by omega))
      have ze39s : m27.1 1 r35 1 = (zCF m0 s y.toNat).1.1 := congrArg Prod.fst ze39
      show wW (zK sc) zM50 102 [(5, .inr (.inr (.inl (some (1, 59 + 7 * t + ((y + 1).toNat)))))), (0, .inr (.inr (.inl (some (10, t))))), (2, .inr (.inr (.inl (some (6, s))))), (3, .inr (.inr (.inl (some (1, 59 + 7 * t + 0))))), (4, .inl y)] [.inr (.inr (.inl (some (1, r35)))), .inr (.inr (.inl (some (1, 59 + 7 * t + 0))))] _ _ _
      refine ww_call (vs := [.inr (.inr (.inl (some (1, 59 + 7 * t + 0)))), .inr (.inr (.inl (some (1, r35))))]) (r := []) (p := 59 + 7 * t + 0 < 171) rfl rfl rfl rfl (show 59 + 7 * t + 0 < 171 from by omega) (zs27 (c := c) (by omega) (59 + 7 * t + 0) r35 hGm27 (by omega)) ?_
      rintro _ _ m42 ⟨rfl, rfl, hGm42, hEm42, hr41⟩
      have hFm42 : zfr (fun k i j => (k = 10 ∧ i = t) ∨ (k = 1 ∧ 59 + 7 * t ≤ i ∧ i < 66 + 7 * t ∧ j = 1) ∨ (k = 2 ∧ 59 + 7 * t ≤ i ∧ i < 66 + 7 * t)) m0 m42 := zfr_tr hFm27 hEm42 (fun k i j z => Or.elim z (fun z => (show (k = 10 ∧ i = t) ∨ (k = 1 ∧ 59 + 7 * t ≤ i ∧ i < 66 + 7 * t ∧ j = 1) ∨ (k = 2 ∧ 59 + 7 * t ≤ i ∧ i < 66 + 7 * t) from Or.inr (Or.inl ((show k = 1 ∧ 59 + 7 * t ≤ i ∧ i < 66 + 7 * t ∧ j = 1 from by omega))))) (fun z => (show (k = 10 ∧ i = t) ∨ (k = 1 ∧ 59 + 7 * t ≤ i ∧ i < 66 + 7 * t ∧ j = 1) ∨ (k = 2 ∧ 59 + 7 * t ≤ i ∧ i < 66 + 7 * t) from Or.inr (Or.inr ((show k = 2 ∧ 59 + 7 * t ≤ i ∧ i < 66 + 7 * t from by omega))))))
      have w43 : m42.1 10 t 2 = m27.1 10 t 2 := (hEm42 10 t 2 (show ¬ ((10 = 1 ∧ t = (59 + 7 * t + 0) ∧ 2 = 1) ∨ (10 = 2 ∧ t = (59 + 7 * t + 0))) from by omega)).1
      have w44 : m42.1 10 t 1 = m27.1 10 t 1 := (hEm42 10 t 1 (show ¬ ((10 = 1 ∧ t = (59 + 7 * t + 0) ∧ 1 = 1) ∨ (10 = 2 ∧ t = (59 + 7 * t + 0))) from by omega)).1
      have w45 : m42.1 6 s 3 = m27.1 6 s 3 := (hEm42 6 s 3 (show ¬ ((6 = 1 ∧ s = (59 + 7 * t + 0) ∧ 3 = 1) ∨ (6 = 2 ∧ s = (59 + 7 * t + 0))) from by omega)).1
      show wW (zK sc) zM50 105 [(5, .inr (.inr (.inl (some (1, 59 + 7 * t + ((y + 1).toNat)))))), (0, .inr (.inr (.inl (some (10, t))))), (2, .inr (.inr (.inl (some (6, s))))), (3, .inr (.inr (.inl (some (1, 59 + 7 * t + 0))))), (4, .inl y)] [] _ _ _
      have zm46q := hr41 (by omega) _ zm31 (by omega)
      have zm46 : zBR m42 (59 + 7 * t + 0) = zLs (((zML x (m0.1 6 s 3) (zCF m0 s) y.toNat) ++ zbl (wi2l r23) (1 : Int).toNat) ++ zbs (zBR m27 r35)) := zm46q.1
      have zm46z := zm46q.2
      have zi47 : zfr (fun k i j => k = 1 ∧ (i = 59 + 7 * t + 0 ∨ i = 59 + 7 * t + (y + 1).toNat) ∧ j = 1 ∨ k = 2 ∧ (i = 59 + 7 * t + 0 ∨ i = 59 + 7 * t + (y + 1).toNat)) m m42 := zfr_tr zi32 hEm42 (fun k i j z => by have z9 : (k = 1 ∧ i = (59 + 7 * t + 0) ∧ j = 1) ∨ (k = 2 ∧ i = (59 + 7 * t + 0)) := z; exact (show k = 1 ∧ (i = 59 + 7 * t + 0 ∨ i = 59 + 7 * t + (y + 1).toNat) ∧ j = 1 ∨ k = 2 ∧ (i = 59 + 7 * t + 0 ∨ i = 59 + 7 * t + (y + 1).toNat) from by omega))
      have zj48 : zfr (fun k i j => k = 1 ∧ i = 59 + 7 * t + 0 ∧ j = 1 ∨ k = 2 ∧ i = 59 + 7 * t + 0) m11 m42 := zfr_tr zj33 hEm42 (fun k i j z => by have z9 : (k = 1 ∧ i = (59 + 7 * t + 0) ∧ j = 1) ∨ (k = 2 ∧ i = (59 + 7 * t + 0)) := z; exact (show k = 1 ∧ i = 59 + 7 * t + 0 ∧ j = 1 ∨ k = 2 ∧ i = 59 + 7 * t + 0 from by omega))
      have zy49 : zBR m42 (59 + 7 * t + (y + 1).toNat) = (zCF m0 s y.toNat).2 := (zBR_fr zj48 (show ¬ ((1 = 1 ∧ (59 + 7 * t + (y + 1).toNat) = 59 + 7 * t + 0 ∧ 1 = 1 ∨ 1 = 2 ∧ (59 + 7 * t + (y + 1).toNat) = 59 + 7 * t + 0)) from by omega) (fun j => (show ¬ ((2 = 1 ∧ (59 + 7 * t + (y + 1).toNat) = 59 + 7 * t + 0 ∧ j = 1 ∨ 2 = 2 ∧ (59 + 7 * t + (y + 1).toNat) = 59 + 7 * t + 0)) from by omega))).trans zcy
      refine ww_go 2 (pc' := 108) (L' := [(5, .inr (.inr (.inl (some (1, 59 + 7 * t + ((y + 1).toNat)))))), (0, .inr (.inr (.inl (some (10, t))))), (2, .inr (.inr (.inl (some (6, s))))), (3, .inr (.inr (.inl (some (1, 59 + 7 * t + 0))))), (4, .inl y)]) (st' := [.inr (.inr (.inl (some (1, 59 + 7 * t + ((y + 1).toNat))))), .inr (.inr (.inl (some (1, 59 + 7 * t + 0))))]) (m' := m42) (o := none) rfl trivial ?_
      refine ww_call (vs := [.inr (.inr (.inl (some (1, 59 + 7 * t + ((y + 1).toNat)))))]) (r := [.inr (.inr (.inl (some (1, 59 + 7 * t + 0))))]) (p := 59 + 7 * t + ((y + 1).toNat) < 171) rfl rfl rfl rfl (show 59 + 7 * t + ((y + 1).toNat) < 171 from by omega) (zs40 (c := c) (by omega) (59 + 7 * t + ((y + 1).toNat)) hGm42 (by omega)) ?_
      rintro _ _ _ ⟨r50, rfl, rfl, rfl, hr51⟩
      have zk52 : r50 = (zCF m0 s y.toNat).2.1 := hr51.1.trans (congrArg Prod.fst zy49)
      show wW (zK sc) zM50 111 [(5, .inr (.inr (.inl (some (1, 59 + 7 * t + ((y + 1).toNat)))))), (0, .inr (.inr (.inl (some (10, t))))), (2, .inr (.inr (.inl (some (6, s))))), (3, .inr (.inr (.inl (some (1, 59 + 7 * t + 0))))), (4, .inl y)] [.inl r50, .inr (.inr (.inl (some (1, 59 + 7 * t + 0))))] _ _ _
      refine ww_go 2 (pc' := 113) (L' := [(5, .inr (.inr (.inl (some (1, 59 + 7 * t + ((y + 1).toNat)))))), (0, .inr (.inr (.inl (some (10, t))))), (2, .inr (.inr (.inl (some (6, s))))), (3, .inr (.inr (.inl (some (1, 59 + 7 * t + 0))))), (4, .inl y)]) (st' := [.inl 1, .inr (.inl (wi2l r50)), .inr (.inr (.inl (some (1, 59 + 7 * t + 0))))]) (m' := m42) (o := none) rfl trivial ?_
      refine ww_call (vs := [.inr (.inr (.inl (some (1, 59 + 7 * t + 0)))), .inr (.inl (wi2l r50)), .inl 1]) (r := []) (p := 59 + 7 * t + 0 < 171) rfl rfl rfl rfl (show 59 + 7 * t + 0 < 171 from by omega) (zs26 (c := c) (by omega) (wi2l r50) 1 (59 + 7 * t + 0) hGm42 (by omega)) ?_
      rintro _ _ m55 ⟨rfl, rfl, hGm55, hEm55, hr54⟩
      have hFm55 : zfr (fun k i j => (k = 10 ∧ i = t) ∨ (k = 1 ∧ 59 + 7 * t ≤ i ∧ i < 66 + 7 * t ∧ j = 1) ∨ (k = 2 ∧ 59 + 7 * t ≤ i ∧ i < 66 + 7 * t)) m0 m55 := zfr_tr hFm42 hEm55 (fun k i j z => Or.elim z (fun z => (show (k = 10 ∧ i = t) ∨ (k = 1 ∧ 59 + 7 * t ≤ i ∧ i < 66 + 7 * t ∧ j = 1) ∨ (k = 2 ∧ 59 + 7 * t ≤ i ∧ i < 66 + 7 * t) from Or.inr (Or.inl ((show k = 1 ∧ 59 + 7 * t ≤ i ∧ i < 66 + 7 * t ∧ j = 1 from by omega))))) (fun z => (show (k = 10 ∧ i = t) ∨ (k = 1 ∧ 59 + 7 * t ≤ i ∧ i < 66 + 7 * t ∧ j = 1) ∨ (k = 2 ∧ 59 + 7 * t ≤ i ∧ i < 66 + 7 * t) from Or.inr (Or.inr ((show k = 2 ∧ 59 + 7 * t ≤ i ∧ i < 66 + 7 * t from by omega))))))
      have w56 : m55.1 10 t 2 = m42.1 10 t 2 := (hEm55 10 t 2 (show ¬ ((10 = 1 ∧ t = (59 + 7 * t + 0) ∧ 2 = 1) ∨ (10 = 2 ∧ t = (59 + 7 * t + 0))) from by omega)).1
      have w57 : m55.1 10 t 1 = m42.1 10 t 1 := (hEm55 10 t 1 (show ¬ ((10 = 1 ∧ t = (59 + 7 * t + 0) ∧ 1 = 1) ∨ (10 = 2 ∧ t = (59 + 7 * t + 0))) from by omega)).1
      have w58 : m55.1 6 s 3 = m42.1 6 s 3 := (hEm55 6 s 3 (show ¬ ((6 = 1 ∧ s = (59 + 7 * t + 0) ∧ 3 = 1) ∨ (6 = 2 ∧ s = (59 + 7 * t + 0))) from by omega)).1
      show wW (zK sc) zM50 116 [(5, .inr (.inr (.inl (some (1, 59 + 7 * t + ((y + 1).toNat)))))), (0, .inr (.inr (.inl (some (10, t))))), (2, .inr (.inr (.inl (some (6, s))))), (3, .inr (.inr (.inl (some (1, 59 + 7 * t + 0))))), (4, .inl y)] [] _ _ _
      have zm59 : zBR m55 (59 + 7 * t + 0) = zLs ((((zML x (m0.1 6 s 3) (zCF m0 s) y.toNat) ++ zbl (wi2l r23) (1 : Int).toNat) ++ zbs (zBR m27 r35)) ++ zbl (wi2l r50) (1 : Int).toNat) := zLs_ap zm46 (hr54.2 (by omega) (by omega)) (by omega) (by omega)
      have zi60 : zfr (fun k i j => k = 1 ∧ (i = 59 + 7 * t + 0 ∨ i = 59 + 7 * t + (y + 1).toNat) ∧ j = 1 ∨ k = 2 ∧ (i = 59 + 7 * t + 0 ∨ i = 59 + 7 * t + (y + 1).toNat)) m m55 := zfr_tr zi47 hEm55 (fun k i j z => by have z9 : (k = 1 ∧ i = (59 + 7 * t + 0) ∧ j = 1) ∨ (k = 2 ∧ i = (59 + 7 * t + 0)) := z; exact (show k = 1 ∧ (i = 59 + 7 * t + 0 ∨ i = 59 + 7 * t + (y + 1).toNat) ∧ j = 1 ∨ k = 2 ∧ (i = 59 + 7 * t + 0 ∨ i = 59 + 7 * t + (y + 1).toNat) from by omega))
      have zj61 : zfr (fun k i j => k = 1 ∧ i = 59 + 7 * t + 0 ∧ j = 1 ∨ k = 2 ∧ i = 59 + 7 * t + 0) m11 m55 := zfr_tr zj48 hEm55 (fun k i j z => by have z9 : (k = 1 ∧ i = (59 + 7 * t + 0) ∧ j = 1) ∨ (k = 2 ∧ i = (59 + 7 * t + 0)) := z; exact (show k = 1 ∧ i = 59 + 7 * t + 0 ∧ j = 1 ∨ k = 2 ∧ i = 59 + 7 * t + 0 from by omega))
      have zy62 : zBR m55 (59 + 7 * t + (y + 1).toNat) = (zCF m0 s y.toNat).2 := (zBR_fr zj61 (show ¬ ((1 = 1 ∧ (59 + 7 * t + (y + 1).toNat) = 59 + 7 * t + 0 ∧ 1 = 1 ∨ 1 = 2 ∧ (59 + 7 * t + (y + 1).toNat) = 59 + 7 * t + 0)) from by omega) (fun j => (show ¬ ((2 = 1 ∧ (59 + 7 * t + (y + 1).toNat) = 59 + 7 * t + 0 ∧ j = 1 ∨ 2 = 2 ∧ (59 + 7 * t + (y + 1).toNat) = 59 + 7 * t + 0)) from by omega))).trans zcy
      refine ww_go 3 (pc' := 121) (L' := [(5, .inr (.inr (.inl (some (1, 59 + 7 * t + ((y + 1).toNat)))))), (0, .inr (.inr (.inl (some (10, t))))), (2, .inr (.inr (.inl (some (6, s))))), (3, .inr (.inr (.inl (some (1, 59 + 7 * t + 0))))), (4, .inl y)]) (st' := [.inr (.inr (.inl (some (1, 59 + 7 * t + ((y + 1).toNat))))), .inr (.inr (.inl (some (1, 59 + 7 * t + ((y + 1).toNat))))), .inr (.inr (.inl (some (1, 59 + 7 * t + 0))))]) (m' := m55) (o := none) rfl trivial ?_
      refine ww_call (vs := [.inr (.inr (.inl (some (1, 59 + 7 * t + ((y + 1).toNat)))))]) (r := [.inr (.inr (.inl (some (1, 59 + 7 * t + ((y + 1).toNat))))), .inr (.inr (.inl (some (1, 59 + 7 * t + 0))))]) (p := 59 + 7 * t + ((y + 1).toNat) < 171) rfl rfl rfl rfl (show 59 + 7 * t + ((y + 1).toNat) < 171 from by omega) (zs40 (c := c) (by omega) (59 + 7 * t + ((y + 1).toNat)) hGm55 (by omega)) ?_
      rintro _ _ _ ⟨r63, rfl, rfl, rfl, hr64⟩
      have zk65 : r63 = (zCF m0 s y.toNat).2.1 := hr64.1.trans (congrArg Prod.fst zy62)
      show wW (zK sc) zM50 124 [(5, .inr (.inr (.inl (some (1, 59 + 7 * t + ((y + 1).toNat)))))), (0, .inr (.inr (.inl (some (10, t))))), (2, .inr (.inr (.inl (some (6, s))))), (3, .inr (.inr (.inl (some (1, 59 + 7 * t + 0))))), (4, .inl y)] [.inl r63, .inr (.inr (.inl (some (1, 59 + 7 * t + ((y + 1).toNat))))), .inr (.inr (.inl (some (1, 59 + 7 * t + 0))))] _ _ _
      refine ww_call (vs := [.inr (.inr (.inl (some (1, 59 + 7 * t + ((y + 1).toNat))))), .inl r63]) (r := [.inr (.inr (.inl (some (1, 59 + 7 * t + 0))))]) (p := 59 + 7 * t + ((y + 1).toNat) < 171) rfl rfl rfl rfl (show 59 + 7 * t + ((y + 1).toNat) < 171 from by omega) (zs33 (c := c) (by omega) r63 (59 + 7 * t + ((y + 1).toNat)) hGm55 (by omega)) ?_
      rintro _ _ _ ⟨r66, rfl, rfl, rfl, hr67⟩
      show wW (zK sc) zM50 127 [(5, .inr (.inr (.inl (some (1, 59 + 7 * t + ((y + 1).toNat)))))), (0, .inr (.inr (.inl (some (10, t))))), (2, .inr (.inr (.inl (some (6, s))))), (3, .inr (.inr (.inl (some (1, 59 + 7 * t + 0))))), (4, .inl y)] [.inr (.inl r66), .inr (.inr (.inl (some (1, 59 + 7 * t + 0))))] _ _ _
      refine ww_go 1 (pc' := 129) (L' := [(5, .inr (.inr (.inl (some (1, 59 + 7 * t + ((y + 1).toNat)))))), (0, .inr (.inr (.inl (some (10, t))))), (2, .inr (.inr (.inl (some (6, s))))), (3, .inr (.inr (.inl (some (1, 59 + 7 * t + 0))))), (4, .inl y)]) (st' := [.inl 8, .inr (.inl r66), .inr (.inr (.inl (some (1, 59 + 7 * t + 0))))]) (m' := m55) (o := none) rfl trivial ?_
      refine ww_call (vs := [.inr (.inr (.inl (some (1, 59 + 7 * t + 0)))), .inr (.inl r66), .inl 8]) (r := []) (p := 59 + 7 * t + 0 < 171) rfl rfl rfl rfl (show 59 + 7 * t + 0 < 171 from by omega) (zs26 (c := c) (by omega) r66 8 (59 + 7 * t + 0) hGm55 (by omega)) ?_
      rintro _ _ m70 ⟨rfl, rfl, hGm70, hEm70, hr69⟩
      have hFm70 : zfr (fun k i j => (k = 10 ∧ i = t) ∨ (k = 1 ∧ 59 + 7 * t ≤ i ∧ i < 66 + 7 * t ∧ j = 1) ∨ (k = 2 ∧ 59 + 7 * t ≤ i ∧ i < 66 + 7 * t)) m0 m70 := zfr_tr hFm55 hEm70 (fun k i j z => Or.elim z (fun z => (show (k = 10 ∧ i = t) ∨ (k = 1 ∧ 59 + 7 * t ≤ i ∧ i < 66 + 7 * t ∧ j = 1) ∨ (k = 2 ∧ 59 + 7 * t ≤ i ∧ i < 66 + 7 * t) from Or.inr (Or.inl ((show k = 1 ∧ 59 + 7 * t ≤ i ∧ i < 66 + 7 * t ∧ j = 1 from by omega))))) (fun z => (show (k = 10 ∧ i = t) ∨ (k = 1 ∧ 59 + 7 * t ≤ i ∧ i < 66 + 7 * t ∧ j = 1) ∨ (k = 2 ∧ 59 + 7 * t ≤ i ∧ i < 66 + 7 * t) from Or.inr (Or.inr ((show k = 2 ∧ 59 + 7 * t ≤ i ∧ i < 66 + 7 * t from by omega))))))
      have w71 : m70.1 10 t 2 = m55.1 10 t 2 := (hEm70 10 t 2 (show ¬ ((10 = 1 ∧ t = (59 + 7 * t + 0) ∧ 2 = 1) ∨ (10 = 2 ∧ t = (59 + 7 * t + 0))) from by omega)).1
      have w72 : m70.1 10 t 1 = m55.1 10 t 1 := (hEm70 10 t 1 (show ¬ ((10 = 1 ∧ t = (59 + 7 * t + 0) ∧ 1 = 1) ∨ (10 = 2 ∧ t = (59 + 7 * t + 0))) from by omega)).1
      have w73 : m70.1 6 s 3 = m55.1 6 s 3 := (hEm70 6 s 3 (show ¬ ((6 = 1 ∧ s = (59 + 7 * t + 0) ∧ 3 = 1) ∨ (6 = 2 ∧ s = (59 + 7 * t + 0))) from by omega)).1
      show wW (zK sc) zM50 132 [(5, .inr (.inr (.inl (some (1, 59 + 7 * t + ((y + 1).toNat)))))), (0, .inr (.inr (.inl (some (10, t))))), (2, .inr (.inr (.inl (some (6, s))))), (3, .inr (.inr (.inl (some (1, 59 + 7 * t + 0))))), (4, .inl y)] [] _ _ _
      have zm74 : zBR m70 (59 + 7 * t + 0) = zLs (((((zML x (m0.1 6 s 3) (zCF m0 s) y.toNat) ++ zbl (wi2l r23) (1 : Int).toNat) ++ zbs (zBR m27 r35)) ++ zbl (wi2l r50) (1 : Int).toNat) ++ zbl r66 (8 : Int).toNat) := zLs_ap zm59 (hr69.2 (by omega) (by omega)) (by omega) (by omega)
      have zi75 : zfr (fun k i j => k = 1 ∧ (i = 59 + 7 * t + 0 ∨ i = 59 + 7 * t + (y + 1).toNat) ∧ j = 1 ∨ k = 2 ∧ (i = 59 + 7 * t + 0 ∨ i = 59 + 7 * t + (y + 1).toNat)) m m70 := zfr_tr zi60 hEm70 (fun k i j z => by have z9 : (k = 1 ∧ i = (59 + 7 * t + 0) ∧ j = 1) ∨ (k = 2 ∧ i = (59 + 7 * t + 0)) := z; exact (show k = 1 ∧ (i = 59 + 7 * t + 0 ∨ i = 59 + 7 * t + (y + 1).toNat) ∧ j = 1 ∨ k = 2 ∧ (i = 59 + 7 * t + 0 ∨ i = 59 + 7 * t + (y + 1).toNat) from by omega))
      have zj76 : zfr (fun k i j => k = 1 ∧ i = 59 + 7 * t + 0 ∧ j = 1 ∨ k = 2 ∧ i = 59 + 7 * t + 0) m11 m70 := zfr_tr zj61 hEm70 (fun k i j z => by have z9 : (k = 1 ∧ i = (59 + 7 * t + 0) ∧ j = 1) ∨ (k = 2 ∧ i = (59 + 7 * t + 0)) := z; exact (show k = 1 ∧ i = 59 + 7 * t + 0 ∧ j = 1 ∨ k = 2 ∧ i = 59 + 7 * t + 0 from by omega))
      have zy77 : zBR m70 (59 + 7 * t + (y + 1).toNat) = (zCF m0 s y.toNat).2 := (zBR_fr zj76 (show ¬ ((1 = 1 ∧ (59 + 7 * t + (y + 1).toNat) = 59 + 7 * t + 0 ∧ 1 = 1 ∨ 1 = 2 ∧ (59 + 7 * t + (y + 1).toNat) = 59 + 7 * t + 0)) from by omega) (fun j => (show ¬ ((2 = 1 ∧ (59 + 7 * t + (y + 1).toNat) = 59 + 7 * t + 0 ∧ j = 1 ∨ 2 = 2 ∧ (59 + 7 * t + (y + 1).toNat) = 59 + 7 * t + 0)) from by omega))).trans zcy
      refine ww_go 2 (pc' := 49) (L' := [(4, .inl (y + 1)), (5, .inr (.inr (.inl (some (1, 59 + 7 * t + ((y + 1).toNat)))))), (0, .inr (.inr (.inl (some (10, t))))), (2, .inr (.inr (.inl (some (6, s))))), (3, .inr (.inr (.inl (some (1, 59 + 7 * t + 0)))))]) (st' := []) (m' := m70) (o := none) rfl trivial ?_
      refine ww_sub (L := [(0, .inr (.inr (.inl (some (10, t))))), (2, .inr (.inr (.inl (some (6, s))))), (3, .inr (.inr (.inl (some (1, 59 + 7 * t + 0))))), (4, .inl (y + 1))]) ⟨rfl, rfl, rfl, rfl, trivial⟩ rfl rfl ?_
      exact (ih _ (by omega)) (y + 1) m70 rfl (zB_mono hGm70 (by omega)) hFm70 (by omega) (by omega) (by omega) (by rw [zm74]; exact congrArg zLs ((zML_s (hr24.1.trans ze22s) ze39 zk52 (hr67.trans (by rw [zy62, zk65])) (by omega) (by omega)).trans (by rw [show (y + 1).toNat = y.toNat + 1 from by omega]))) (by exact fun q hq => (Decidable.em ((q : Int) < y)).elim (fun z => (zBR_fr zi75 (show ¬ ((1 = 1 ∧ ((59 + 7 * t + (q + 1)) = 59 + 7 * t + 0 ∨ (59 + 7 * t + (q + 1)) = 59 + 7 * t + (y + 1).toNat) ∧ 1 = 1 ∨ 1 = 2 ∧ ((59 + 7 * t + (q + 1)) = 59 + 7 * t + 0 ∨ (59 + 7 * t + (q + 1)) = 59 + 7 * t + (y + 1).toNat))) from by omega) (fun j => (show ¬ ((2 = 1 ∧ ((59 + 7 * t + (q + 1)) = 59 + 7 * t + 0 ∨ (59 + 7 * t + (q + 1)) = 59 + 7 * t + (y + 1).toNat) ∧ j = 1 ∨ 2 = 2 ∧ ((59 + 7 * t + (q + 1)) = 59 + 7 * t + 0 ∨ (59 + 7 * t + (q + 1)) = 59 + 7 * t + (y + 1).toNat))) from by omega))).trans (hI q z)) (fun z => (by have e9 : q = y.toNat := (by omega); have e8 : 59 + 7 * t + (q + 1) = 59 + 7 * t + (y + 1).toNat := (by omega); rw [e8, e9]; exact zy77)))
set_option maxRecDepth 8000 in
/-- Edition.record -/
theorem zs50 {sc : xSc} {n : Nat × Nat} {m0 : wm} {c : Int} (hc : 0 ≤ c ∧ c ≤ 1000000) (x : Int) (t : Nat) (s : Nat) (hG : zB c m0) (h0 : t < 6 ∧ s < 2 ∧ 0 ≤ x ∧ x ≤ 1000) : wX (zK sc) 50 [.inr (.inr (.inl (some (10, t)))), .inl x, .inr (.inr (.inl (some (6, s))))] n m0 (wr (fun vv n1 m1 => vv = none ∧ n = n1 ∧ zB c m1 ∧ zfr (fun k i j => (k = 10 ∧ i = t) ∨ (k = 1 ∧ 59 + 7 * t ≤ i ∧ i < 66 + 7 * t ∧ j = 1) ∨ (k = 2 ∧ 59 + 7 * t ≤ i ∧ i < 66 + 7 * t)) m0 m1 ∧ (zRec m0 m1 t s x))) := by
  refine wX_of (N := zM50) rfl (Nat.le_of_ble_eq_true rfl) ?_
  show wW (zK sc) zM50 0 [(0, .inr (.inr (.inl (some (10, t))))), (1, .inl x), (2, .inr (.inr (.inl (some (6, s)))))] [] n m0 _
  have hF : zfr (fun k i j => (k = 10 ∧ i = t) ∨ (k = 1 ∧ 59 + 7 * t ≤ i ∧ i < 66 + 7 * t ∧ j = 1) ∨ (k = 2 ∧ 59 + 7 * t ≤ i ∧ i < 66 + 7 * t)) m0 m0 := zfr_rf
  have zl0 : zlim (59 + 7 * t + 0) = 104 := zlim_e (by omega) (by omega)
  have bf : 0 ≤ m0.1 6 s 3 ∧ m0.1 6 s 3 ≤ 6 := hG.1 6 _ rfl _ _
  refine ww_go 3 (pc' := 5) (L' := [(0, .inr (.inr (.inl (some (10, t))))), (1, .inl x), (2, .inr (.inr (.inl (some (6, s)))))]) (st' := []) (m' := wuI m0 10 t 1 x) (o := some ((t < 6))) rfl (show (t < 6) from by omega) ?_
  obtain ⟨m1, hm1⟩ : ∃ zq9 : wm, zq9 = wuI m0 10 t 1 x := ⟨_, rfl⟩
  rw [← hm1]
  have hGm1 : zB c m1 := by rw [hm1]; exact zB_wI rfl (show 0 ≤ x ∧ x ≤ 1000 from by omega) hG
  have hFm1 : zfr (fun k i j => (k = 10 ∧ i = t) ∨ (k = 1 ∧ 59 + 7 * t ≤ i ∧ i < 66 + 7 * t ∧ j = 1) ∨ (k = 2 ∧ 59 + 7 * t ≤ i ∧ i < 66 + 7 * t)) m0 m1 := by rw [hm1]; exact zfr_wI hF (show (10 = 10 ∧ t = t) ∨ (10 = 1 ∧ 59 + 7 * t ≤ t ∧ t < 66 + 7 * t ∧ 1 = 1) ∨ (10 = 2 ∧ 59 + 7 * t ≤ t ∧ t < 66 + 7 * t) from Or.inl (⟨rfl, rfl⟩))
  have s2 : m1.1 10 t 1 = x := by rw [hm1]; exact wuI_self
  have w3 : m1.1 10 t 2 = m0.1 10 t 2 := by rw [hm1]; exact wuI_nj (by omega)
  have w4 : m1.1 6 s 3 = m0.1 6 s 3 := by rw [hm1]; rfl
  refine ww_go 2 (pc' := 7) (L' := [(0, .inr (.inr (.inl (some (10, t))))), (1, .inl x), (2, .inr (.inr (.inl (some (6, s)))))]) (st' := [.inr (.inr (.inl (some (6, s)))), .inr (.inr (.inl (some (10, t))))]) (m' := m1) (o := none) rfl trivial ?_
  refine ww_call (vs := [.inr (.inr (.inl (some (6, s))))]) (r := [.inr (.inr (.inl (some (10, t))))]) (p := s < 2) rfl rfl rfl rfl (show s < 2 from by omega) (zs55 (c := c) (by omega) s hGm1 (by omega)) ?_
  rintro _ _ _ ⟨r5, rfl, rfl, rfl, hr6⟩
  show wW (zK sc) zM50 10 [(0, .inr (.inr (.inl (some (10, t))))), (1, .inl x), (2, .inr (.inr (.inl (some (6, s)))))] [.inl r5, .inr (.inr (.inl (some (10, t))))] _ _ _
  refine ww_go 3 (pc' := 15) (L' := [(0, .inr (.inr (.inl (some (10, t))))), (1, .inl x), (2, .inr (.inr (.inl (some (6, s)))))]) (st' := []) (m' := wuI m1 10 t 2 (r5 + 1)) (o := some ((t < 6))) rfl (show (t < 6) from by omega) ?_
  obtain ⟨m7, hm7⟩ : ∃ zq9 : wm, zq9 = wuI m1 10 t 2 (r5 + 1) := ⟨_, rfl⟩
  rw [← hm7]
  have hGm7 : zB c m7 := by rw [hm7]; exact zB_wI rfl (show 0 ≤ r5 + 1 ∧ r5 + 1 ≤ 7 from by omega) hGm1
  have hFm7 : zfr (fun k i j => (k = 10 ∧ i = t) ∨ (k = 1 ∧ 59 + 7 * t ≤ i ∧ i < 66 + 7 * t ∧ j = 1) ∨ (k = 2 ∧ 59 + 7 * t ≤ i ∧ i < 66 + 7 * t)) m0 m7 := by rw [hm7]; exact zfr_wI hFm1 (show (10 = 10 ∧ t = t) ∨ (10 = 1 ∧ 59 + 7 * t ≤ t ∧ t < 66 + 7 * t ∧ 2 = 1) ∨ (10 = 2 ∧ 59 + 7 * t ≤ t ∧ t < 66 + 7 * t) from Or.inl (⟨rfl, rfl⟩))
  have s8 : m7.1 10 t 2 = r5 + 1 := by rw [hm7]; exact wuI_self
  have w9 : m7.1 10 t 1 = m1.1 10 t 1 := by rw [hm7]; exact wuI_nj (by omega)
  have w10 : m7.1 6 s 3 = m1.1 6 s 3 := by rw [hm7]; rfl
  refine ww_go 6 (pc' := 23) (L' := [(3, .inr (.inr (.inl (some (1, 59 + 7 * t + 0))))), (0, .inr (.inr (.inl (some (10, t))))), (1, .inl x), (2, .inr (.inr (.inl (some (6, s)))))]) (st' := [.inr (.inr (.inl (some (1, 59 + 7 * t + 0))))]) (m' := m7) (o := some ((t < 6) ∧ (t < 6 ∧ 0 ≤ (0 : Int) ∧ (0 : Int) < ((7 : Nat) : Int)))) rfl (show (t < 6) ∧ (t < 6 ∧ 0 ≤ (0 : Int) ∧ (0 : Int) < ((7 : Nat) : Int)) from by omega) ?_
  refine ww_call (vs := [.inr (.inr (.inl (some (1, 59 + 7 * t + 0))))]) (r := []) (p := 59 + 7 * t + 0 < 171) rfl rfl rfl rfl (show 59 + 7 * t + 0 < 171 from by omega) (zs29 (c := c) (by omega) (59 + 7 * t + 0) hGm7 (by omega)) ?_
  rintro _ _ m13 ⟨rfl, rfl, hGm13, hEm13, hr12⟩
  have hFm13 : zfr (fun k i j => (k = 10 ∧ i = t) ∨ (k = 1 ∧ 59 + 7 * t ≤ i ∧ i < 66 + 7 * t ∧ j = 1) ∨ (k = 2 ∧ 59 + 7 * t ≤ i ∧ i < 66 + 7 * t)) m0 m13 := zfr_tr hFm7 hEm13 (fun k i j z => (show (k = 10 ∧ i = t) ∨ (k = 1 ∧ 59 + 7 * t ≤ i ∧ i < 66 + 7 * t ∧ j = 1) ∨ (k = 2 ∧ 59 + 7 * t ≤ i ∧ i < 66 + 7 * t) from Or.inr (Or.inl ((show k = 1 ∧ 59 + 7 * t ≤ i ∧ i < 66 + 7 * t ∧ j = 1 from by omega)))))
  have w14 : m13.1 10 t 2 = m7.1 10 t 2 := (hEm13 10 t 2 (show ¬ ((10 = 1 ∧ t = (59 + 7 * t + 0) ∧ 2 = 1)) from by omega)).1
  have w15 : m13.1 10 t 1 = m7.1 10 t 1 := (hEm13 10 t 1 (show ¬ ((10 = 1 ∧ t = (59 + 7 * t + 0) ∧ 1 = 1)) from by omega)).1
  have w16 : m13.1 6 s 3 = m7.1 6 s 3 := (hEm13 6 s 3 (show ¬ ((6 = 1 ∧ s = (59 + 7 * t + 0) ∧ 3 = 1)) from by omega)).1
  show wW (zK sc) zM50 26 [(3, .inr (.inr (.inl (some (1, 59 + 7 * t + 0))))), (0, .inr (.inr (.inl (some (10, t))))), (1, .inl x), (2, .inr (.inr (.inl (some (6, s)))))] [] _ _ _
  have zm17 : zBR m13 (59 + 7 * t + 0) = zLs [] := zLs_0 (by omega)
  have b18 : 0 ≤ m13.1 10 t 1 ∧ m13.1 10 t 1 ≤ 1000 := hGm13.1 10 _ rfl _ _
  refine ww_go 5 (pc' := 33) (L' := [(3, .inr (.inr (.inl (some (1, 59 + 7 * t + 0))))), (0, .inr (.inr (.inl (some (10, t))))), (1, .inl x), (2, .inr (.inr (.inl (some (6, s)))))]) (st' := [.inl 2, .inr (.inl (wi2l (m13.1 10 t 1))), .inr (.inr (.inl (some (1, 59 + 7 * t + 0))))]) (m' := m13) (o := some ((t < 6))) rfl (show (t < 6) from by omega) ?_
  refine ww_call (vs := [.inr (.inr (.inl (some (1, 59 + 7 * t + 0)))), .inr (.inl (wi2l (m13.1 10 t 1))), .inl 2]) (r := []) (p := 59 + 7 * t + 0 < 171) rfl rfl rfl rfl (show 59 + 7 * t + 0 < 171 from by omega) (zs26 (c := c) (by omega) (wi2l (m13.1 10 t 1)) 2 (59 + 7 * t + 0) hGm13 (by omega)) ?_
  rintro _ _ m21 ⟨rfl, rfl, hGm21, hEm21, hr20⟩
  have hFm21 : zfr (fun k i j => (k = 10 ∧ i = t) ∨ (k = 1 ∧ 59 + 7 * t ≤ i ∧ i < 66 + 7 * t ∧ j = 1) ∨ (k = 2 ∧ 59 + 7 * t ≤ i ∧ i < 66 + 7 * t)) m0 m21 := zfr_tr hFm13 hEm21 (fun k i j z => Or.elim z (fun z => (show (k = 10 ∧ i = t) ∨ (k = 1 ∧ 59 + 7 * t ≤ i ∧ i < 66 + 7 * t ∧ j = 1) ∨ (k = 2 ∧ 59 + 7 * t ≤ i ∧ i < 66 + 7 * t) from Or.inr (Or.inl ((show k = 1 ∧ 59 + 7 * t ≤ i ∧ i < 66 + 7 * t ∧ j = 1 from by omega))))) (fun z => (show (k = 10 ∧ i = t) ∨ (k = 1 ∧ 59 + 7 * t ≤ i ∧ i < 66 + 7 * t ∧ j = 1) ∨ (k = 2 ∧ 59 + 7 * t ≤ i ∧ i < 66 + 7 * t) from Or.inr (Or.inr ((show k = 2 ∧ 59 + 7 * t ≤ i ∧ i < 66 + 7 * t from by omega))))))
  have w22 : m21.1 10 t 2 = m13.1 10 t 2 := (hEm21 10 t 2 (show ¬ ((10 = 1 ∧ t = (59 + 7 * t + 0) ∧ 2 = 1) ∨ (10 = 2 ∧ t = (59 + 7 * t + 0))) from by omega)).1
  have w23 : m21.1 10 t 1 = m13.1 10 t 1 := (hEm21 10 t 1 (show ¬ ((10 = 1 ∧ t = (59 + 7 * t + 0) ∧ 1 = 1) ∨ (10 = 2 ∧ t = (59 + 7 * t + 0))) from by omega)).1
  have w24 : m21.1 6 s 3 = m13.1 6 s 3 := (hEm21 6 s 3 (show ¬ ((6 = 1 ∧ s = (59 + 7 * t + 0) ∧ 3 = 1) ∨ (6 = 2 ∧ s = (59 + 7 * t + 0))) from by omega)).1
  show wW (zK sc) zM50 36 [(3, .inr (.inr (.inl (some (1, 59 + 7 * t + 0))))), (0, .inr (.inr (.inl (some (10, t))))), (1, .inl x), (2, .inr (.inr (.inl (some (6, s)))))] [] _ _ _
  have zm25 : zBR m21 (59 + 7 * t + 0) = zLs ([] ++ zbl (wi2l (m13.1 10 t 1)) (2 : Int).toNat) := zLs_ap zm17 (hr20.2 (by omega) (by omega)) (by omega) (by omega)
  refine ww_go 2 (pc' := 38) (L' := [(3, .inr (.inr (.inl (some (1, 59 + 7 * t + 0))))), (0, .inr (.inr (.inl (some (10, t))))), (1, .inl x), (2, .inr (.inr (.inl (some (6, s)))))]) (st' := [.inr (.inr (.inl (some (6, s)))), .inr (.inr (.inl (some (1, 59 + 7 * t + 0))))]) (m' := m21) (o := none) rfl trivial ?_
  refine ww_call (vs := [.inr (.inr (.inl (some (6, s))))]) (r := [.inr (.inr (.inl (some (1, 59 + 7 * t + 0))))]) (p := s < 2) rfl rfl rfl rfl (show s < 2 from by omega) (zs55 (c := c) (by omega) s hGm21 (by omega)) ?_
  rintro _ _ _ ⟨r26, rfl, rfl, rfl, hr27⟩
  show wW (zK sc) zM50 41 [(3, .inr (.inr (.inl (some (1, 59 + 7 * t + 0))))), (0, .inr (.inr (.inl (some (10, t))))), (1, .inl x), (2, .inr (.inr (.inl (some (6, s)))))] [.inl r26, .inr (.inr (.inl (some (1, 59 + 7 * t + 0))))] _ _ _
  refine ww_go 2 (pc' := 43) (L' := [(3, .inr (.inr (.inl (some (1, 59 + 7 * t + 0))))), (0, .inr (.inr (.inl (some (10, t))))), (1, .inl x), (2, .inr (.inr (.inl (some (6, s)))))]) (st' := [.inl 1, .inr (.inl (wi2l r26)), .inr (.inr (.inl (some (1, 59 + 7 * t + 0))))]) (m' := m21) (o := none) rfl trivial ?_
  refine ww_call (vs := [.inr (.inr (.inl (some (1, 59 + 7 * t + 0)))), .inr (.inl (wi2l r26)), .inl 1]) (r := []) (p := 59 + 7 * t + 0 < 171) rfl rfl rfl rfl (show 59 + 7 * t + 0 < 171 from by omega) (zs26 (c := c) (by omega) (wi2l r26) 1 (59 + 7 * t + 0) hGm21 (by omega)) ?_
  rintro _ _ m30 ⟨rfl, rfl, hGm30, hEm30, hr29⟩
  have hFm30 : zfr (fun k i j => (k = 10 ∧ i = t) ∨ (k = 1 ∧ 59 + 7 * t ≤ i ∧ i < 66 + 7 * t ∧ j = 1) ∨ (k = 2 ∧ 59 + 7 * t ≤ i ∧ i < 66 + 7 * t)) m0 m30 := zfr_tr hFm21 hEm30 (fun k i j z => Or.elim z (fun z => (show (k = 10 ∧ i = t) ∨ (k = 1 ∧ 59 + 7 * t ≤ i ∧ i < 66 + 7 * t ∧ j = 1) ∨ (k = 2 ∧ 59 + 7 * t ≤ i ∧ i < 66 + 7 * t) from Or.inr (Or.inl ((show k = 1 ∧ 59 + 7 * t ≤ i ∧ i < 66 + 7 * t ∧ j = 1 from by omega))))) (fun z => (show (k = 10 ∧ i = t) ∨ (k = 1 ∧ 59 + 7 * t ≤ i ∧ i < 66 + 7 * t ∧ j = 1) ∨ (k = 2 ∧ 59 + 7 * t ≤ i ∧ i < 66 + 7 * t) from Or.inr (Or.inr ((show k = 2 ∧ 59 + 7 * t ≤ i ∧ i < 66 + 7 * t from by omega))))))
  have w31 : m30.1 10 t 2 = m21.1 10 t 2 := (hEm30 10 t 2 (show ¬ ((10 = 1 ∧ t = (59 + 7 * t + 0) ∧ 2 = 1) ∨ (10 = 2 ∧ t = (59 + 7 * t + 0))) from by omega)).1
  have w32 : m30.1 10 t 1 = m21.1 10 t 1 := (hEm30 10 t 1 (show ¬ ((10 = 1 ∧ t = (59 + 7 * t + 0) ∧ 1 = 1) ∨ (10 = 2 ∧ t = (59 + 7 * t + 0))) from by omega)).1
  have w33 : m30.1 6 s 3 = m21.1 6 s 3 := (hEm30 6 s 3 (show ¬ ((6 = 1 ∧ s = (59 + 7 * t + 0) ∧ 3 = 1) ∨ (6 = 2 ∧ s = (59 + 7 * t + 0))) from by omega)).1
  show wW (zK sc) zM50 46 [(3, .inr (.inr (.inl (some (1, 59 + 7 * t + 0))))), (0, .inr (.inr (.inl (some (10, t))))), (1, .inl x), (2, .inr (.inr (.inl (some (6, s)))))] [] _ _ _
  have zm34 : zBR m30 (59 + 7 * t + 0) = zLs (([] ++ zbl (wi2l (m13.1 10 t 1)) (2 : Int).toNat) ++ zbl (wi2l r26) (1 : Int).toNat) := zLs_ap zm25 (hr29.2 (by omega) (by omega)) (by omega) (by omega)
  refine ww_go 2 (pc' := 49) (L' := [(4, .inl 0), (3, .inr (.inr (.inl (some (1, 59 + 7 * t + 0))))), (0, .inr (.inr (.inl (some (10, t))))), (1, .inl x), (2, .inr (.inr (.inl (some (6, s)))))]) (st' := []) (m' := m30) (o := none) rfl trivial ?_
  refine ww_sub (L := [(0, .inr (.inr (.inl (some (10, t))))), (2, .inr (.inr (.inl (some (6, s))))), (3, .inr (.inr (.inl (some (1, 59 + 7 * t + 0))))), (4, .inl 0)]) ⟨rfl, rfl, rfl, rfl, trivial⟩ rfl rfl ?_
  exact (zs50_l49 hc x t s hG h0 _) 0 m30 rfl (zB_mono hGm30 (by omega)) hFm30 (by omega) (by omega) (by omega) (by rw [zm34]; rw [show m13.1 10 t 1 = x from by omega, show r26 = m0.1 6 s 3 from by omega, show zbl (wi2l x) (2 : Int).toNat = _ from zbl_2 (by omega) (by omega), show zbl (wi2l (m0.1 6 s 3)) (1 : Int).toNat = _ from zbl_w (by omega) (by omega)]; rfl) (by exact fun q hq => absurd hq (by omega))
set_option maxRecDepth 8000 in
theorem zs49_l4 {sc : xSc} {n : Nat × Nat} {m : wm} {c : Int} (hc : 0 ≤ c ∧ c ≤ 1000000) (t : Nat) (hG : zB c m) (h0 : t < 6) : ∀ (d : Nat), (∀ (y : Int) (z : Int), (7 - z).toNat * 10 + 9 = d → (0 ≤ z ∧ z ≤ m.1 10 t 2 ∧ m.1 10 t 2 ≤ 7 ∧ 0 ≤ y ∧ y ≤ 32 * z ∧ (1 ≤ z → 2 ≤ y) ∧ y = zTq (zge m t) z.toNat) →  wW (zK sc) zM49 4 [(0, .inr (.inr (.inl (some (10, t))))), (1, .inl y), (2, .inl z)] [] n m (wr (fun vv n1 m1 => ∃ r : Int, vv = some (.inl r) ∧ n = n1 ∧ m = m1 ∧ (r = zEP m t ∧ 0 ≤ r ∧ r ≤ 224 ∧ (1 ≤ m.1 10 t 2 → 2 ≤ r))))) ∧ (∀ (y : Int) (z : Int) (w : Int) (b : Int), (7 - z).toNat * 10 + (2 - b).toNat = d → (0 ≤ z ∧ z < m.1 10 t 2 ∧ m.1 10 t 2 ≤ 7 ∧ 0 ≤ w ∧ w ≤ 104 ∧ w = m.1 1 (59 + 7 * t + z.toNat) 1 ∧ 0 ≤ b ∧ b ≤ 2 ∧ (b ≤ 1 ∨ 64 < w) ∧ 0 ≤ y ∧ y ≤ 32 * z + 16 * b ∧ (1 ≤ z ∨ 1 ≤ b → 2 ≤ y) ∧ y = zTq (zge m t) z.toNat + zTi w b) →  wW (zK sc) zM49 25 [(0, .inr (.inr (.inl (some (10, t))))), (1, .inl y), (2, .inl z), (3, .inl w), (4, .inl b)] [] n m (wr (fun vv n1 m1 => ∃ r : Int, vv = some (.inl r) ∧ n = n1 ∧ m = m1 ∧ (r = zEP m t ∧ 0 ≤ r ∧ r ≤ 224 ∧ (1 ≤ m.1 10 t 2 → 2 ≤ r))))) := by
  intro d
  induction d using Nat.strongRecOn with
  | ind d ih =>
    refine ⟨?_, ?_⟩
    · intro y z hd hi
      have zl9 := zlim_le (59 + 7 * t + z.toNat)
      have bi : 0 ≤ m.1 10 t 2 ∧ m.1 10 t 2 ≤ 7 := hG.1 10 _ rfl t 2
      have ts9 := zTq_s (g := zge m t) (z := z) (by omega)
      have tw9 : zge m t z.toNat = m.1 1 (59 + 7 * t + z.toNat) 1 := rfl
      have te9 : z = m.1 10 t 2 → zTq (zge m t) z.toNat = zEP m t := fun h => by rw [h]; rfl
      have b1 : 0 ≤ m.1 10 t 2 ∧ m.1 10 t 2 ≤ 7 := hG.1 10 _ rfl _ _
      refine ww_go 3 (pc' := 9) (L' := [(0, .inr (.inr (.inl (some (10, t))))), (1, .inl y), (2, .inl z)]) (st' := [.inl (m.1 10 t 2), .inl z]) (m' := m) (o := some ((t < 6))) rfl (show (t < 6) from by omega) ?_
      refine ww_ic (t := 55) rfl rfl (by omega) (fun (h2 : m.1 10 t 2 ≤ z) => ?_) (fun (h2 : ¬ (m.1 10 t 2 ≤ z)) => ?_)
      · show wW (zK sc) zM49 55 [(0, .inr (.inr (.inl (some (10, t))))), (1, .inl y), (2, .inl z)] [] _ _ _
        refine ww_go 1 (pc' := 56) (L' := [(0, .inr (.inr (.inl (some (10, t))))), (1, .inl y), (2, .inl z)]) (st' := [.inl y]) (m' := m) (o := none) rfl trivial ?_
        exact ww_rI rfl rfl ⟨_, rfl, rfl, rfl, by omega⟩
      · show wW (zK sc) zM49 12 [(0, .inr (.inr (.inl (some (10, t))))), (1, .inl y), (2, .inl z)] [] _ _ _
        refine ww_go 4 (pc' := 18) (L' := [(0, .inr (.inr (.inl (some (10, t))))), (1, .inl y), (2, .inl z)]) (st' := [.inr (.inr (.inl (some (1, 59 + 7 * t + z.toNat))))]) (m' := m) (o := some ((t < 6) ∧ (t < 6 ∧ 0 ≤ z ∧ z < ((7 : Nat) : Int)))) rfl (show (t < 6) ∧ (t < 6 ∧ 0 ≤ z ∧ z < ((7 : Nat) : Int)) from by omega) ?_
        refine ww_call (vs := [.inr (.inr (.inl (some (1, 59 + 7 * t + z.toNat))))]) (r := []) (p := 59 + 7 * t + z.toNat < 171) rfl rfl rfl rfl (show 59 + 7 * t + z.toNat < 171 from by omega) (zs40 (c := c) (by omega) (59 + 7 * t + z.toNat) hG (by omega)) ?_
        rintro _ _ _ ⟨r3, rfl, rfl, rfl, hr4⟩
        show wW (zK sc) zM49 21 [(0, .inr (.inr (.inl (some (10, t))))), (1, .inl y), (2, .inl z)] [.inl r3] _ _ _
        refine ww_go 3 (pc' := 25) (L' := [(4, .inl 0), (3, .inl r3), (0, .inr (.inr (.inl (some (10, t))))), (1, .inl y), (2, .inl z)]) (st' := []) (m' := m) (o := none) rfl trivial ?_
        refine ww_sub (L := [(0, .inr (.inr (.inl (some (10, t))))), (1, .inl y), (2, .inl z), (3, .inl r3), (4, .inl 0)]) ⟨rfl, rfl, rfl, rfl, rfl, trivial⟩ rfl rfl ?_
        exact (ih _ (by omega)).2 y z r3 0 rfl (by have z1 := zTi_0 r3; omega)
    · intro y z w b hd hi
      have ts9 := zTq_s (g := zge m t) (z := z) (by omega)
      have tw9 : zge m t z.toNat = m.1 1 (59 + 7 * t + z.toNat) 1 := rfl
      have te9 : z = m.1 10 t 2 → zTq (zge m t) z.toNat = zEP m t := fun h => by rw [h]; rfl
      rw [tw9] at ts9
      have ti9 := zTi_s w b
      have tj9 := zTi_e w b
      have hw9 : zpkn w = zpkn (m.1 1 (59 + 7 * t + z.toNat) 1) := by rw [hi.2.2.2.2.2.1]
      refine ww_go 2 (pc' := 28) (L' := [(0, .inr (.inr (.inl (some (10, t))))), (1, .inl y), (2, .inl z), (3, .inl w), (4, .inl b)]) (st' := [.inl w, .inl b]) (m' := m) (o := none) rfl trivial ?_
      refine ww_call (vs := [.inl w]) (r := [.inl b]) (p := True) rfl rfl rfl rfl trivial (zs42 w (by omega)) ?_
      rintro _ _ _ ⟨r1, rfl, rfl, rfl, hr2⟩
      show wW (zK sc) zM49 31 [(0, .inr (.inr (.inl (some (10, t))))), (1, .inl y), (2, .inl z), (3, .inl w), (4, .inl b)] [.inl r1, .inl b] _ _ _
      refine ww_ic (t := 49) rfl rfl (by omega) (fun (h3 : r1 ≤ b) => ?_) (fun (h3 : ¬ (r1 ≤ b)) => ?_)
      · show wW (zK sc) zM49 49 [(0, .inr (.inr (.inl (some (10, t))))), (1, .inl y), (2, .inl z), (3, .inl w), (4, .inl b)] [] _ _ _
        refine ww_go 2 (pc' := 4) (L' := [(2, .inl (z + 1)), (0, .inr (.inr (.inl (some (10, t))))), (1, .inl y), (3, .inl w), (4, .inl b)]) (st' := []) (m' := m) (o := none) rfl trivial ?_
        refine ww_sub (L := [(0, .inr (.inr (.inl (some (10, t))))), (1, .inl y), (2, .inl (z + 1))]) ⟨rfl, rfl, rfl, trivial⟩ rfl rfl ?_
        exact (ih _ (by omega)).1 y (z + 1) rfl (by omega)
      · show wW (zK sc) zM49 34 [(0, .inr (.inr (.inl (some (10, t))))), (1, .inl y), (2, .inl z), (3, .inl w), (4, .inl b)] [] _ _ _
        refine ww_go 3 (pc' := 38) (L' := [(0, .inr (.inr (.inl (some (10, t))))), (1, .inl y), (2, .inl z), (3, .inl w), (4, .inl b)]) (st' := [.inl b, .inl w, .inl y]) (m' := m) (o := none) rfl trivial ?_
        refine ww_call (vs := [.inl w, .inl b]) (r := [.inl y]) (p := True) rfl rfl rfl rfl trivial (zs44 w b (by omega)) ?_
        rintro _ _ _ ⟨r4, rfl, rfl, rfl, hr5⟩
        show wW (zK sc) zM49 41 [(0, .inr (.inr (.inl (some (10, t))))), (1, .inl y), (2, .inl z), (3, .inl w), (4, .inl b)] [.inl r4, .inl y] _ _ _
        refine ww_go 4 (pc' := 25) (L' := [(4, .inl (b + 1)), (1, .inl (y + r4)), (0, .inr (.inr (.inl (some (10, t))))), (2, .inl z), (3, .inl w)]) (st' := []) (m' := m) (o := none) rfl trivial ?_
        refine ww_sub (L := [(0, .inr (.inr (.inl (some (10, t))))), (1, .inl (y + r4)), (2, .inl z), (3, .inl w), (4, .inl (b + 1))]) ⟨rfl, rfl, rfl, rfl, rfl, trivial⟩ rfl rfl ?_
        exact (ih _ (by omega)).2 (y + r4) z w (b + 1) rfl (by omega)
set_option maxRecDepth 8000 in
/-- Edition.packets -/
theorem zs49 {sc : xSc} {n : Nat × Nat} {m : wm} {c : Int} (hc : 0 ≤ c ∧ c ≤ 1000000) (t : Nat) (hG : zB c m) (h0 : t < 6) : wX (zK sc) 49 [.inr (.inr (.inl (some (10, t))))] n m (wr (fun vv n1 m1 => ∃ r : Int, vv = some (.inl r) ∧ n = n1 ∧ m = m1 ∧ (r = zEP m t ∧ 0 ≤ r ∧ r ≤ 224 ∧ (1 ≤ m.1 10 t 2 → 2 ≤ r)))) := by
  refine wX_of (N := zM49) rfl (Nat.le_of_ble_eq_true rfl) ?_
  show wW (zK sc) zM49 0 [(0, .inr (.inr (.inl (some (10, t)))))] [] n m _
  refine ww_go 4 (pc' := 4) (L' := [(2, .inl 0), (1, .inl 0), (0, .inr (.inr (.inl (some (10, t)))))]) (st' := []) (m' := m) (o := none) rfl trivial ?_
  refine ww_sub (L := [(0, .inr (.inr (.inl (some (10, t))))), (1, .inl 0), (2, .inl 0)]) ⟨rfl, rfl, rfl, trivial⟩ rfl rfl ?_
  exact (zs49_l4 hc t hG h0 _).1 0 0 rfl (by have bi : 0 ≤ m.1 10 t 2 ∧ m.1 10 t 2 ≤ 7 := hG.1 10 _ rfl t 2; have z0 : zTq (zge m t) (0 : Int).toNat = 0 := rfl; omega)
set_option maxRecDepth 8000 in
/-- Edition.appendPlace -/
theorem zs47 {sc : xSc} {n : Nat × Nat} {m0 : wm} {c : Int} (hc : 0 ≤ c ∧ c ≤ 1000000) (x : Int) (y : Int) (z : Int) (t : Nat) (s : Nat) (hG : zB c m0) (h0 : t < 6 ∧ s < 35 ∧ 0 ≤ x ∧ x ≤ 6) : wX (zK sc) 47 [.inr (.inr (.inl (some (10, t)))), .inr (.inr (.inl (some (1, s)))), .inl x, .inl y, .inl z] n m0 (wr (fun vv n1 m1 => vv = none ∧ n = n1 ∧ zB c m1 ∧ zfr (fun k i j => (k = 1 ∧ i = s ∧ j = 1) ∨ (k = 2 ∧ i = s)) m0 m1 ∧ (m1.1 1 s 1 = min (m0.1 1 s 1 + 4) ((zlim s : Nat) : Int) ∧ ∀ l, zBR m0 s = zLs l → m0.1 1 s 1 + 4 ≤ ((zlim s : Nat) : Int) → zBR m1 s = zLs ((((l ++ zbl (wi2l x) (1 : Int).toNat) ++ zbl (wi2l y) (1 : Int).toNat) ++ zbl (wi2l z) (1 : Int).toNat) ++ zbl (wi2l (m0.1 1 (59 + 7 * t + x.toNat) 1)) (1 : Int).toNat)))) := by
  refine wX_of (N := zM47) rfl (Nat.le_of_ble_eq_true rfl) ?_
  show wW (zK sc) zM47 0 [(0, .inr (.inr (.inl (some (10, t))))), (1, .inr (.inr (.inl (some (1, s))))), (2, .inl x), (3, .inl y), (4, .inl z)] [] n m0 _
  have hF : zfr (fun k i j => (k = 1 ∧ i = s ∧ j = 1) ∨ (k = 2 ∧ i = s)) m0 m0 := zfr_rf
  have q9 : 0 ≤ m0.1 1 s 1 ∧ m0.1 1 s 1 ≤ ((zlim s : Nat) : Int) := hG.1 1 _ rfl _ _
  refine ww_go 4 (pc' := 4) (L' := [(0, .inr (.inr (.inl (some (10, t))))), (1, .inr (.inr (.inl (some (1, s))))), (2, .inl x), (3, .inl y), (4, .inl z)]) (st' := [.inl 1, .inr (.inl (wi2l x)), .inr (.inr (.inl (some (1, s))))]) (m' := m0) (o := none) rfl trivial ?_
  refine ww_call (vs := [.inr (.inr (.inl (some (1, s)))), .inr (.inl (wi2l x)), .inl 1]) (r := []) (p := s < 171) rfl rfl rfl rfl (show s < 171 from by omega) (zs26 (c := c) (by omega) (wi2l x) 1 s hG (by omega)) ?_
  rintro _ _ m3 ⟨rfl, rfl, hGm3, hEm3, hr2⟩
  have hFm3 : zfr (fun k i j => (k = 1 ∧ i = s ∧ j = 1) ∨ (k = 2 ∧ i = s)) m0 m3 := zfr_tr hF hEm3 (fun k i j z => Or.elim z (fun z => Or.inl z) (fun z => Or.inr (z)))
  show wW (zK sc) zM47 7 [(0, .inr (.inr (.inl (some (10, t))))), (1, .inr (.inr (.inl (some (1, s))))), (2, .inl x), (3, .inl y), (4, .inl z)] [] _ _ _
  refine ww_go 4 (pc' := 11) (L' := [(0, .inr (.inr (.inl (some (10, t))))), (1, .inr (.inr (.inl (some (1, s))))), (2, .inl x), (3, .inl y), (4, .inl z)]) (st' := [.inl 1, .inr (.inl (wi2l y)), .inr (.inr (.inl (some (1, s))))]) (m' := m3) (o := none) rfl trivial ?_
  refine ww_call (vs := [.inr (.inr (.inl (some (1, s)))), .inr (.inl (wi2l y)), .inl 1]) (r := []) (p := s < 171) rfl rfl rfl rfl (show s < 171 from by omega) (zs26 (c := c) (by omega) (wi2l y) 1 s hGm3 (by omega)) ?_
  rintro _ _ m6 ⟨rfl, rfl, hGm6, hEm6, hr5⟩
  have hFm6 : zfr (fun k i j => (k = 1 ∧ i = s ∧ j = 1) ∨ (k = 2 ∧ i = s)) m0 m6 := zfr_tr hFm3 hEm6 (fun k i j z => Or.elim z (fun z => Or.inl z) (fun z => Or.inr (z)))
  show wW (zK sc) zM47 14 [(0, .inr (.inr (.inl (some (10, t))))), (1, .inr (.inr (.inl (some (1, s))))), (2, .inl x), (3, .inl y), (4, .inl z)] [] _ _ _
  refine ww_go 4 (pc' := 19) (L' := [(0, .inr (.inr (.inl (some (10, t))))), (1, .inr (.inr (.inl (some (1, s))))), (2, .inl x), (3, .inl y), (4, .inl z)]) (st' := [.inl 1, .inr (.inl (wi2l z)), .inr (.inr (.inl (some (1, s))))]) (m' := m6) (o := none) rfl trivial ?_
  refine ww_call (vs := [.inr (.inr (.inl (some (1, s)))), .inr (.inl (wi2l z)), .inl 1]) (r := []) (p := s < 171) rfl rfl rfl rfl (show s < 171 from by omega) (zs26 (c := c) (by omega) (wi2l z) 1 s hGm6 (by omega)) ?_
  rintro _ _ m9 ⟨rfl, rfl, hGm9, hEm9, hr8⟩
  have hFm9 : zfr (fun k i j => (k = 1 ∧ i = s ∧ j = 1) ∨ (k = 2 ∧ i = s)) m0 m9 := zfr_tr hFm6 hEm9 (fun k i j z => Or.elim z (fun z => Or.inl z) (fun z => Or.inr (z)))
  show wW (zK sc) zM47 22 [(0, .inr (.inr (.inl (some (10, t))))), (1, .inr (.inr (.inl (some (1, s))))), (2, .inl x), (3, .inl y), (4, .inl z)] [] _ _ _
  refine ww_go 5 (pc' := 29) (L' := [(0, .inr (.inr (.inl (some (10, t))))), (1, .inr (.inr (.inl (some (1, s))))), (2, .inl x), (3, .inl y), (4, .inl z)]) (st' := [.inr (.inr (.inl (some (1, 59 + 7 * t + x.toNat)))), .inr (.inr (.inl (some (1, s))))]) (m' := m9) (o := some ((t < 6) ∧ (t < 6 ∧ 0 ≤ x ∧ x < ((7 : Nat) : Int)))) rfl (show (t < 6) ∧ (t < 6 ∧ 0 ≤ x ∧ x < ((7 : Nat) : Int)) from by omega) ?_
  refine ww_call (vs := [.inr (.inr (.inl (some (1, 59 + 7 * t + x.toNat))))]) (r := [.inr (.inr (.inl (some (1, s))))]) (p := 59 + 7 * t + x.toNat < 171) rfl rfl rfl rfl (show 59 + 7 * t + x.toNat < 171 from by omega) (zs40 (c := c) (by omega) (59 + 7 * t + x.toNat) hGm9 (by omega)) ?_
  rintro _ _ _ ⟨r10, rfl, rfl, rfl, hr11⟩
  have zw9 : m9.1 1 (59 + 7 * t + x.toNat) 1 = m0.1 1 (59 + 7 * t + x.toNat) 1 := (hFm9 1 (59 + 7 * t + x.toNat) 1 (show ¬ ((1 = 1 ∧ (59 + 7 * t + x.toNat) = s ∧ 1 = 1) ∨ (1 = 2 ∧ (59 + 7 * t + x.toNat) = s)) from by omega)).1
  show wW (zK sc) zM47 32 [(0, .inr (.inr (.inl (some (10, t))))), (1, .inr (.inr (.inl (some (1, s))))), (2, .inl x), (3, .inl y), (4, .inl z)] [.inl r10, .inr (.inr (.inl (some (1, s))))] _ _ _
  refine ww_go 2 (pc' := 34) (L' := [(0, .inr (.inr (.inl (some (10, t))))), (1, .inr (.inr (.inl (some (1, s))))), (2, .inl x), (3, .inl y), (4, .inl z)]) (st' := [.inl 1, .inr (.inl (wi2l r10)), .inr (.inr (.inl (some (1, s))))]) (m' := m9) (o := none) rfl trivial ?_
  refine ww_call (vs := [.inr (.inr (.inl (some (1, s)))), .inr (.inl (wi2l r10)), .inl 1]) (r := []) (p := s < 171) rfl rfl rfl rfl (show s < 171 from by omega) (zs26 (c := c) (by omega) (wi2l r10) 1 s hGm9 (by omega)) ?_
  rintro _ _ m14 ⟨rfl, rfl, hGm14, hEm14, hr13⟩
  have hFm14 : zfr (fun k i j => (k = 1 ∧ i = s ∧ j = 1) ∨ (k = 2 ∧ i = s)) m0 m14 := zfr_tr hFm9 hEm14 (fun k i j z => Or.elim z (fun z => Or.inl z) (fun z => Or.inr (z)))
  show wW (zK sc) zM47 37 [(0, .inr (.inr (.inl (some (10, t))))), (1, .inr (.inr (.inl (some (1, s))))), (2, .inl x), (3, .inl y), (4, .inl z)] [] _ _ _
  exact ww_rV rfl rfl ⟨rfl, rfl, zB_mono hGm14 (by omega), hFm14, ⟨by omega, fun l z1 z2 => (by have a0 := zLs_ap z1 (hr2.2 (by omega) (by omega)) (by omega) (by omega); have a1 := zLs_ap a0 (hr5.2 (by omega) (by omega)) (by omega) (by omega); have a2 := zLs_ap a1 (hr8.2 (by omega) (by omega)) (by omega) (by omega); have a3 := zLs_ap a2 (hr13.2 (by omega) (by omega)) (by omega) (by omega); rw [show r10 = m0.1 1 (59 + 7 * t + x.toNat) 1 from by omega] at a3; exact a3)⟩⟩
set_option maxRecDepth 8000 in
theorem zs51_l35 {sc : xSc} {n : Nat × Nat} {m : wm} {c : Int} (hc : 0 ≤ c ∧ c ≤ 1000000) (x : Int) (y : Int) (z : Int) (t : Nat) (hG : zB c m) (h0 : t < 6 ∧ 0 ≤ x ∧ x ≤ 6 ∧ 0 ≤ y ∧ y ≤ 1 ∧ 0 ≤ z ∧ z ≤ 1000) : ∀ (d : Nat), ∀ (w : Int) (v : Int) (g : Int64) (b : Int), (8 - b).toNat = d → (1 ≤ w ∧ w ≤ 8 ∧ 0 ≤ b ∧ b ≤ w) → (w = zpc (m.1 1 (59 + 7 * t + x.toNat) 1) y) → (v = zmk (m.1 10 t 1) x y z (zpc (m.1 1 (59 + 7 * t + x.toNat) 1) y)) → (g = zsm (zBR m (59 + 7 * t + x.toNat)).2 v y b.toNat) →  wW (zK sc) zM51 35 [(0, .inr (.inr (.inl (some (10, t))))), (1, .inl x), (2, .inl y), (4, .inl w), (5, .inl v), (6, .inr (.inl g)), (8, .inl b)] [] n m (wr (fun vv n1 m1 => ∃ r : Int64, vv = some (.inr (.inl r)) ∧ n = n1 ∧ m = m1 ∧ (r = zsm (zBR m (59 + 7 * t + x.toNat)).2 (zmk (m.1 10 t 1) x y z (zpc (m.1 1 (59 + 7 * t + x.toNat) 1) y)) y (zpc (m.1 1 (59 + 7 * t + x.toNat) 1) y).toNat))) := by
  intro d
  induction d using Nat.strongRecOn with
  | ind d ih =>
    intro w v g b hd hi hw hv hg
    have zl9 := zlim_le (59 + 7 * t + x.toNat)
    refine ww_go 2 (pc' := 39) (L' := [(0, .inr (.inr (.inl (some (10, t))))), (1, .inl x), (2, .inl y), (4, .inl w), (5, .inl v), (6, .inr (.inl g)), (8, .inl b)]) (st' := [.inl w, .inl b]) (m' := m) (o := none) rfl trivial ?_
    refine ww_ic (t := 85) rfl rfl (by omega) (fun (h1 : w ≤ b) => ?_) (fun (h1 : ¬ (w ≤ b)) => ?_)
    · show wW (zK sc) zM51 85 [(0, .inr (.inr (.inl (some (10, t))))), (1, .inl x), (2, .inl y), (4, .inl w), (5, .inl v), (6, .inr (.inl g)), (8, .inl b)] [] _ _ _
      refine ww_go 1 (pc' := 87) (L' := [(0, .inr (.inr (.inl (some (10, t))))), (1, .inl x), (2, .inl y), (4, .inl w), (5, .inl v), (6, .inr (.inl g)), (8, .inl b)]) (st' := [.inr (.inl g)]) (m' := m) (o := none) rfl trivial ?_
      exact ww_rL rfl rfl ⟨_, rfl, rfl, rfl, by (rw [← hv, ← hw, show w = b from by omega]; exact hg)⟩
    · show wW (zK sc) zM51 42 [(0, .inr (.inr (.inl (some (10, t))))), (1, .inl x), (2, .inl y), (4, .inl w), (5, .inl v), (6, .inr (.inl g)), (8, .inl b)] [] _ _ _
      have t2 := wshr_rg v b
      have t3 := wand_rg (wshr v b) 1
      have t4 := wand_m1 (wshr v b)
      refine ww_go 6 (pc' := 50) (L' := [(0, .inr (.inr (.inl (some (10, t))))), (1, .inl x), (2, .inl y), (4, .inl w), (5, .inl v), (6, .inr (.inl g)), (8, .inl b)]) (st' := [.inl 1, .inl (wand (wshr v b) 1)]) (m' := m) (o := none) rfl trivial ?_
      refine ww_ic (t := 79) rfl rfl (by omega) (fun (h5 : wand (wshr v b) 1 ≠ 1) => ?_) (fun (h5 : ¬ (wand (wshr v b) 1 ≠ 1)) => ?_)
      · show wW (zK sc) zM51 79 [(0, .inr (.inr (.inl (some (10, t))))), (1, .inl x), (2, .inl y), (4, .inl w), (5, .inl v), (6, .inr (.inl g)), (8, .inl b)] [] _ _ _
        refine ww_go 2 (pc' := 35) (L' := [(8, .inl (b + 1)), (0, .inr (.inr (.inl (some (10, t))))), (1, .inl x), (2, .inl y), (4, .inl w), (5, .inl v), (6, .inr (.inl g))]) (st' := []) (m' := m) (o := none) rfl trivial ?_
        refine ww_sub (L := [(0, .inr (.inr (.inl (some (10, t))))), (1, .inl x), (2, .inl y), (4, .inl w), (5, .inl v), (6, .inr (.inl g)), (8, .inl (b + 1))]) ⟨rfl, rfl, rfl, rfl, rfl, rfl, rfl, trivial⟩ rfl rfl ?_
        exact (ih _ (by omega)) w v g (b + 1) rfl (by omega) (by exact hw) (by exact hv) (by exact zsm_s (by omega) hg (fun z => absurd z (by omega)) (fun _ => rfl))
      · show wW (zK sc) zM51 53 [(0, .inr (.inr (.inl (some (10, t))))), (1, .inl x), (2, .inl y), (4, .inl w), (5, .inl v), (6, .inr (.inl g)), (8, .inl b)] [] _ _ _
        refine ww_go 13 (pc' := 73) (L' := [(0, .inr (.inr (.inl (some (10, t))))), (1, .inl x), (2, .inl y), (4, .inl w), (5, .inl v), (6, .inr (.inl g)), (8, .inl b)]) (st' := [.inl 8, .inl ((y * 64) + (b * 8)), .inr (.inr (.inl (some (1, 59 + 7 * t + x.toNat)))), .inr (.inl g)]) (m' := m) (o := some ((t < 6) ∧ (t < 6 ∧ 0 ≤ x ∧ x < ((7 : Nat) : Int)))) rfl (show (t < 6) ∧ (t < 6 ∧ 0 ≤ x ∧ x < ((7 : Nat) : Int)) from by omega) ?_
        refine ww_call (vs := [.inr (.inr (.inl (some (1, 59 + 7 * t + x.toNat)))), .inl ((y * 64) + (b * 8)), .inl 8]) (r := [.inr (.inl g)]) (p := 59 + 7 * t + x.toNat < 171) rfl rfl rfl rfl (show 59 + 7 * t + x.toNat < 171 from by omega) (zs36 (c := c) (by omega) ((y * 64) + (b * 8)) 8 (59 + 7 * t + x.toNat) hG (by omega)) ?_
        rintro _ _ _ ⟨r6, rfl, rfl, rfl, hr7⟩
        show wW (zK sc) zM51 76 [(0, .inr (.inr (.inl (some (10, t))))), (1, .inl x), (2, .inl y), (4, .inl w), (5, .inl v), (6, .inr (.inl g)), (8, .inl b)] [.inr (.inl r6), .inr (.inl g)] _ _ _
        refine ww_go 4 (pc' := 35) (L' := [(8, .inl (b + 1)), (6, .inr (.inl (g ^^^ r6))), (0, .inr (.inr (.inl (some (10, t))))), (1, .inl x), (2, .inl y), (4, .inl w), (5, .inl v)]) (st' := []) (m' := m) (o := none) rfl trivial ?_
        refine ww_sub (L := [(0, .inr (.inr (.inl (some (10, t))))), (1, .inl x), (2, .inl y), (4, .inl w), (5, .inl v), (6, .inr (.inl (g ^^^ r6))), (8, .inl (b + 1))]) ⟨rfl, rfl, rfl, rfl, rfl, rfl, rfl, trivial⟩ rfl rfl ?_
        exact (ih _ (by omega)) w v (g ^^^ r6) (b + 1) rfl (by omega) (by exact hw) (by exact hv) (by exact zsm_s (by omega) hg (fun _ => (by rw [hr7.2 (by omega), show y * 64 + b * 8 = 64 * y + 8 * b from by omega]; rfl)) (fun z => absurd (by omega) z))
set_option maxRecDepth 8000 in
/-- Edition.sum -/
theorem zs51 {sc : xSc} {n : Nat × Nat} {m : wm} {c : Int} (hc : 0 ≤ c ∧ c ≤ 1000000) (x : Int) (y : Int) (z : Int) (t : Nat) (hG : zB c m) (h0 : t < 6 ∧ 0 ≤ x ∧ x ≤ 6 ∧ 0 ≤ y ∧ y ≤ 1 ∧ 0 ≤ z ∧ z ≤ 1000) : wX (zK sc) 51 [.inr (.inr (.inl (some (10, t)))), .inl x, .inl y, .inl z] n m (wr (fun vv n1 m1 => ∃ r : Int64, vv = some (.inr (.inl r)) ∧ n = n1 ∧ m = m1 ∧ (r = zsm (zBR m (59 + 7 * t + x.toNat)).2 (zmk (m.1 10 t 1) x y z (zpc (m.1 1 (59 + 7 * t + x.toNat) 1) y)) y (zpc (m.1 1 (59 + 7 * t + x.toNat) 1) y).toNat))) := by
  refine wX_of (N := zM51) rfl (Nat.le_of_ble_eq_true rfl) ?_
  show wW (zK sc) zM51 0 [(0, .inr (.inr (.inl (some (10, t))))), (1, .inl x), (2, .inl y), (3, .inl z)] [] n m _
  have zl9 := zlim_le (59 + 7 * t + x.toNat)
  refine ww_go 4 (pc' := 6) (L' := [(0, .inr (.inr (.inl (some (10, t))))), (1, .inl x), (2, .inl y), (3, .inl z)]) (st' := [.inr (.inr (.inl (some (1, 59 + 7 * t + x.toNat))))]) (m' := m) (o := some ((t < 6) ∧ (t < 6 ∧ 0 ≤ x ∧ x < ((7 : Nat) : Int)))) rfl (show (t < 6) ∧ (t < 6 ∧ 0 ≤ x ∧ x < ((7 : Nat) : Int)) from by omega) ?_
  refine ww_call (vs := [.inr (.inr (.inl (some (1, 59 + 7 * t + x.toNat))))]) (r := []) (p := 59 + 7 * t + x.toNat < 171) rfl rfl rfl rfl (show 59 + 7 * t + x.toNat < 171 from by omega) (zs40 (c := c) (by omega) (59 + 7 * t + x.toNat) hG (by omega)) ?_
  rintro _ _ _ ⟨r1, rfl, rfl, rfl, hr2⟩
  show wW (zK sc) zM51 9 [(0, .inr (.inr (.inl (some (10, t))))), (1, .inl x), (2, .inl y), (3, .inl z)] [.inl r1] _ _ _
  refine ww_go 1 (pc' := 10) (L' := [(0, .inr (.inr (.inl (some (10, t))))), (1, .inl x), (2, .inl y), (3, .inl z)]) (st' := [.inl y, .inl r1]) (m' := m) (o := none) rfl trivial ?_
  refine ww_call (vs := [.inl r1, .inl y]) (r := []) (p := True) rfl rfl rfl rfl trivial (zs45 r1 y (by omega)) ?_
  rintro _ _ _ ⟨r3, rfl, rfl, rfl, hr4⟩
  show wW (zK sc) zM51 13 [(0, .inr (.inr (.inl (some (10, t))))), (1, .inl x), (2, .inl y), (3, .inl z)] [.inl r3] _ _ _
  have b5 : 0 ≤ m.1 10 t 1 ∧ m.1 10 t 1 ≤ 1000 := hG.1 10 _ rfl _ _
  refine ww_go 7 (pc' := 24) (L' := [(4, .inl r3), (0, .inr (.inr (.inl (some (10, t))))), (1, .inl x), (2, .inl y), (3, .inl z)]) (st' := [.inl r3, .inl z, .inl y, .inl x, .inl (m.1 10 t 1)]) (m' := m) (o := some ((t < 6))) rfl (show (t < 6) from by omega) ?_
  refine ww_call (vs := [.inl (m.1 10 t 1), .inl x, .inl y, .inl z, .inl r3]) (r := []) (p := True) rfl rfl rfl rfl trivial (zs43 (m.1 10 t 1) x y z r3 (by omega)) ?_
  rintro _ _ _ ⟨r6, rfl, rfl, rfl, hr7⟩
  show wW (zK sc) zM51 27 [(4, .inl r3), (0, .inr (.inr (.inl (some (10, t))))), (1, .inl x), (2, .inl y), (3, .inl z)] [.inl r6] _ _ _
  refine ww_go 5 (pc' := 35) (L' := [(8, .inl 0), (6, .inr (.inl (Int64.ofNat 0))), (5, .inl r6), (4, .inl r3), (0, .inr (.inr (.inl (some (10, t))))), (1, .inl x), (2, .inl y), (3, .inl z)]) (st' := []) (m' := m) (o := none) rfl trivial ?_
  refine ww_sub (L := [(0, .inr (.inr (.inl (some (10, t))))), (1, .inl x), (2, .inl y), (4, .inl r3), (5, .inl r6), (6, .inr (.inl (Int64.ofNat 0))), (8, .inl 0)]) ⟨rfl, rfl, rfl, rfl, rfl, rfl, rfl, trivial⟩ rfl rfl ?_
  exact (zs51_l35 hc x y z t hG h0 _) r3 r6 (Int64.ofNat 0) 0 rfl (by omega) (by rw [hr4.2.2, hr2.1]; rfl) (by exact hr7.2.trans (by rw [show r3 = zpc (m.1 1 (59 + 7 * t + x.toNat) 1) y from (by rw [hr4.2.2, hr2.1]; rfl)])) (by rfl)
set_option maxRecDepth 8000 in
theorem zs48_l6 {sc : xSc} {n : Nat × Nat} {m0 : wm} {c : Int} (hc : 0 ≤ c ∧ c ≤ 1000000) (x : Int) (y : Int) (z : Int) (t : Nat) (s : Nat) (hG : zB c m0) (h0 : t < 6 ∧ 3 ≤ s ∧ s < 35 ∧ 0 ≤ x ∧ x ≤ 1000000) : ∀ (d : Nat), (∀ (w : Int) (a : Int), (7 - a).toNat * 10 + 9 = d → (0 ≤ w ∧ w ≤ 1000000 ∧ 0 ≤ a ∧ a ≤ m0.1 10 t 2 ∧ w = x - zTq (zge m0 t) a.toNat) →  wW (zK sc) zM48 6 [(0, .inr (.inr (.inl (some (10, t))))), (1, .inr (.inr (.inl (some (1, s))))), (3, .inl y), (4, .inl z), (5, .inl w), (6, .inl a)] [] n m0 (wr (fun vv n1 m1 => vv = none ∧ n = n1 ∧ zB c m1 ∧ zfr (fun k i j => (k = 1 ∧ i = s ∧ j = 1) ∨ (k = 2 ∧ i = s)) m0 m1 ∧ (x < zEP m0 t → m1.1 1 s 1 = 24 ∧ ∃ a b j : Int, zLo (zge m0 t) (m0.1 10 t 2) x a b j ∧ zBR m1 s = zLs (zPK y z (m0.1 10 t 1) a b j (m0.1 1 (59 + 7 * t + a.toNat) 1) (zsm (zBR m0 (59 + 7 * t + a.toNat)).2 (zmk (m0.1 10 t 1) a b j (zpc (m0.1 1 (59 + 7 * t + a.toNat) 1) b)) b (zpc (m0.1 1 (59 + 7 * t + a.toNat) 1) b).toNat)))))) ∧ (∀ (w : Int) (a : Int) (v : Int) (b : Int), (7 - a).toNat * 10 + (2 - b).toNat = d → (0 ≤ w ∧ w ≤ 1000000 ∧ 0 ≤ a ∧ a < m0.1 10 t 2 ∧ 0 ≤ v ∧ v ≤ 104 ∧ v = m0.1 1 (59 + 7 * t + a.toNat) 1 ∧ 0 ≤ b ∧ b ≤ 2 ∧ (b ≤ 1 ∨ 64 < v) ∧ w = x - zTq (zge m0 t) a.toNat - zTi v b) →  wW (zK sc) zM48 30 [(0, .inr (.inr (.inl (some (10, t))))), (1, .inr (.inr (.inl (some (1, s))))), (3, .inl y), (4, .inl z), (5, .inl w), (6, .inl a), (7, .inl v), (8, .inl b)] [] n m0 (wr (fun vv n1 m1 => vv = none ∧ n = n1 ∧ zB c m1 ∧ zfr (fun k i j => (k = 1 ∧ i = s ∧ j = 1) ∨ (k = 2 ∧ i = s)) m0 m1 ∧ (x < zEP m0 t → m1.1 1 s 1 = 24 ∧ ∃ a b j : Int, zLo (zge m0 t) (m0.1 10 t 2) x a b j ∧ zBR m1 s = zLs (zPK y z (m0.1 10 t 1) a b j (m0.1 1 (59 + 7 * t + a.toNat) 1) (zsm (zBR m0 (59 + 7 * t + a.toNat)).2 (zmk (m0.1 10 t 1) a b j (zpc (m0.1 1 (59 + 7 * t + a.toNat) 1) b)) b (zpc (m0.1 1 (59 + 7 * t + a.toNat) 1) b).toNat)))))) := by
  intro d
  induction d using Nat.strongRecOn with
  | ind d ih =>
    refine ⟨?_, ?_⟩
    · intro w a hd hi
      have zs9 : zlim s = 24 := zlim_sl (by omega) (by omega)
      have bi : 0 ≤ m0.1 10 t 2 ∧ m0.1 10 t 2 ≤ 7 := hG.1 10 _ rfl t 2
      have z0 : zTq (zge m0 t) (0 : Int).toNat = 0 := rfl
      have zl9 := zlim_le (59 + 7 * t + a.toNat)
      have ts9 := zTq_s (g := zge m0 t) (z := a) (by omega)
      have tw9 : zge m0 t a.toNat = m0.1 1 (59 + 7 * t + a.toNat) 1 := rfl
      have te9 : a = m0.1 10 t 2 → zTq (zge m0 t) a.toNat = zEP m0 t := fun h => by rw [h]; rfl
      have hF : zfr (fun k i j => (k = 1 ∧ i = s ∧ j = 1) ∨ (k = 2 ∧ i = s)) m0 m0 := zfr_rf
      have b1 : 0 ≤ m0.1 10 t 2 ∧ m0.1 10 t 2 ≤ 7 := hG.1 10 _ rfl _ _
      refine ww_go 3 (pc' := 12) (L' := [(0, .inr (.inr (.inl (some (10, t))))), (1, .inr (.inr (.inl (some (1, s))))), (3, .inl y), (4, .inl z), (5, .inl w), (6, .inl a)]) (st' := [.inl (m0.1 10 t 2), .inl a]) (m' := m0) (o := some ((t < 6))) rfl (show (t < 6) from by omega) ?_
      refine ww_ic (t := 144) rfl rfl (by omega) (fun (h2 : m0.1 10 t 2 ≤ a) => ?_) (fun (h2 : ¬ (m0.1 10 t 2 ≤ a)) => ?_)
      · show wW (zK sc) zM48 144 [(0, .inr (.inr (.inl (some (10, t))))), (1, .inr (.inr (.inl (some (1, s))))), (3, .inl y), (4, .inl z), (5, .inl w), (6, .inl a)] [] _ _ _
        exact ww_rV rfl rfl ⟨rfl, rfl, zB_mono hG (by omega), hF, fun z => absurd z (by omega)⟩
      · show wW (zK sc) zM48 15 [(0, .inr (.inr (.inl (some (10, t))))), (1, .inr (.inr (.inl (some (1, s))))), (3, .inl y), (4, .inl z), (5, .inl w), (6, .inl a)] [] _ _ _
        refine ww_go 4 (pc' := 22) (L' := [(0, .inr (.inr (.inl (some (10, t))))), (1, .inr (.inr (.inl (some (1, s))))), (3, .inl y), (4, .inl z), (5, .inl w), (6, .inl a)]) (st' := [.inr (.inr (.inl (some (1, 59 + 7 * t + a.toNat))))]) (m' := m0) (o := some ((t < 6) ∧ (t < 6 ∧ 0 ≤ a ∧ a < ((7 : Nat) : Int)))) rfl (show (t < 6) ∧ (t < 6 ∧ 0 ≤ a ∧ a < ((7 : Nat) : Int)) from by omega) ?_
        refine ww_call (vs := [.inr (.inr (.inl (some (1, 59 + 7 * t + a.toNat))))]) (r := []) (p := 59 + 7 * t + a.toNat < 171) rfl rfl rfl rfl (show 59 + 7 * t + a.toNat < 171 from by omega) (zs40 (c := c) (by omega) (59 + 7 * t + a.toNat) hG (by omega)) ?_
        rintro _ _ _ ⟨r3, rfl, rfl, rfl, hr4⟩
        show wW (zK sc) zM48 25 [(0, .inr (.inr (.inl (some (10, t))))), (1, .inr (.inr (.inl (some (1, s))))), (3, .inl y), (4, .inl z), (5, .inl w), (6, .inl a)] [.inl r3] _ _ _
        refine ww_go 3 (pc' := 30) (L' := [(8, .inl 0), (7, .inl r3), (0, .inr (.inr (.inl (some (10, t))))), (1, .inr (.inr (.inl (some (1, s))))), (3, .inl y), (4, .inl z), (5, .inl w), (6, .inl a)]) (st' := []) (m' := m0) (o := none) rfl trivial ?_
        refine ww_sub (L := [(0, .inr (.inr (.inl (some (10, t))))), (1, .inr (.inr (.inl (some (1, s))))), (3, .inl y), (4, .inl z), (5, .inl w), (6, .inl a), (7, .inl r3), (8, .inl 0)]) ⟨rfl, rfl, rfl, rfl, rfl, rfl, rfl, rfl, trivial⟩ rfl rfl ?_
        exact (ih _ (by omega)).2 w a r3 0 rfl (by have z1 := zTi_0 r3; omega)
    · intro w a v b hd hi
      have zs9 : zlim s = 24 := zlim_sl (by omega) (by omega)
      have bi : 0 ≤ m0.1 10 t 2 ∧ m0.1 10 t 2 ≤ 7 := hG.1 10 _ rfl t 2
      have z0 : zTq (zge m0 t) (0 : Int).toNat = 0 := rfl
      have ts9 := zTq_s (g := zge m0 t) (z := a) (by omega)
      have tw9 : zge m0 t a.toNat = m0.1 1 (59 + 7 * t + a.toNat) 1 := rfl
      have te9 : a = m0.1 10 t 2 → zTq (zge m0 t) a.toNat = zEP m0 t := fun h => by rw [h]; rfl
      rw [tw9] at ts9
      have ti9 := zTi_s v b
      have tj9 := zTi_e v b
      have hv9 : v = m0.1 1 (59 + 7 * t + a.toNat) 1 := hi.2.2.2.2.2.2.1
      have hw9 : zpkn v = zpkn (m0.1 1 (59 + 7 * t + a.toNat) 1) := by rw [hi.2.2.2.2.2.2.1]
      have hF : zfr (fun k i j => (k = 1 ∧ i = s ∧ j = 1) ∨ (k = 2 ∧ i = s)) m0 m0 := zfr_rf
      refine ww_go 2 (pc' := 34) (L' := [(0, .inr (.inr (.inl (some (10, t))))), (1, .inr (.inr (.inl (some (1, s))))), (3, .inl y), (4, .inl z), (5, .inl w), (6, .inl a), (7, .inl v), (8, .inl b)]) (st' := [.inl v, .inl b]) (m' := m0) (o := none) rfl trivial ?_
      refine ww_call (vs := [.inl v]) (r := [.inl b]) (p := True) rfl rfl rfl rfl trivial (zs42 v (by omega)) ?_
      rintro _ _ _ ⟨r1, rfl, rfl, rfl, hr2⟩
      show wW (zK sc) zM48 37 [(0, .inr (.inr (.inl (some (10, t))))), (1, .inr (.inr (.inl (some (1, s))))), (3, .inl y), (4, .inl z), (5, .inl w), (6, .inl a), (7, .inl v), (8, .inl b)] [.inl r1, .inl b] _ _ _
      refine ww_ic (t := 138) rfl rfl (by omega) (fun (h3 : r1 ≤ b) => ?_) (fun (h3 : ¬ (r1 ≤ b)) => ?_)
      · show wW (zK sc) zM48 138 [(0, .inr (.inr (.inl (some (10, t))))), (1, .inr (.inr (.inl (some (1, s))))), (3, .inl y), (4, .inl z), (5, .inl w), (6, .inl a), (7, .inl v), (8, .inl b)] [] _ _ _
        refine ww_go 2 (pc' := 6) (L' := [(6, .inl (a + 1)), (0, .inr (.inr (.inl (some (10, t))))), (1, .inr (.inr (.inl (some (1, s))))), (3, .inl y), (4, .inl z), (5, .inl w), (7, .inl v), (8, .inl b)]) (st' := []) (m' := m0) (o := none) rfl trivial ?_
        refine ww_sub (L := [(0, .inr (.inr (.inl (some (10, t))))), (1, .inr (.inr (.inl (some (1, s))))), (3, .inl y), (4, .inl z), (5, .inl w), (6, .inl (a + 1))]) ⟨rfl, rfl, rfl, rfl, rfl, rfl, trivial⟩ rfl rfl ?_
        exact (ih _ (by omega)).1 w (a + 1) rfl (by omega)
      · show wW (zK sc) zM48 40 [(0, .inr (.inr (.inl (some (10, t))))), (1, .inr (.inr (.inl (some (1, s))))), (3, .inl y), (4, .inl z), (5, .inl w), (6, .inl a), (7, .inl v), (8, .inl b)] [] _ _ _
        refine ww_go 2 (pc' := 44) (L' := [(0, .inr (.inr (.inl (some (10, t))))), (1, .inr (.inr (.inl (some (1, s))))), (3, .inl y), (4, .inl z), (5, .inl w), (6, .inl a), (7, .inl v), (8, .inl b)]) (st' := [.inl b, .inl v]) (m' := m0) (o := none) rfl trivial ?_
        refine ww_call (vs := [.inl v, .inl b]) (r := []) (p := True) rfl rfl rfl rfl trivial (zs44 v b (by omega)) ?_
        rintro _ _ _ ⟨r4, rfl, rfl, rfl, hr5⟩
        show wW (zK sc) zM48 47 [(0, .inr (.inr (.inl (some (10, t))))), (1, .inr (.inr (.inl (some (1, s))))), (3, .inl y), (4, .inl z), (5, .inl w), (6, .inl a), (7, .inl v), (8, .inl b)] [.inl r4] _ _ _
        refine ww_go 3 (pc' := 53) (L' := [(9, .inl r4), (0, .inr (.inr (.inl (some (10, t))))), (1, .inr (.inr (.inl (some (1, s))))), (3, .inl y), (4, .inl z), (5, .inl w), (6, .inl a), (7, .inl v), (8, .inl b)]) (st' := [.inl r4, .inl w]) (m' := m0) (o := none) rfl trivial ?_
        refine ww_ic (t := 125) rfl rfl (by omega) (fun (h6 : r4 ≤ w) => ?_) (fun (h6 : ¬ (r4 ≤ w)) => ?_)
        · show wW (zK sc) zM48 125 [(9, .inl r4), (0, .inr (.inr (.inl (some (10, t))))), (1, .inr (.inr (.inl (some (1, s))))), (3, .inl y), (4, .inl z), (5, .inl w), (6, .inl a), (7, .inl v), (8, .inl b)] [] _ _ _
          refine ww_go 6 (pc' := 30) (L' := [(8, .inl (b + 1)), (5, .inl (w - r4)), (9, .inl r4), (0, .inr (.inr (.inl (some (10, t))))), (1, .inr (.inr (.inl (some (1, s))))), (3, .inl y), (4, .inl z), (6, .inl a), (7, .inl v)]) (st' := []) (m' := m0) (o := none) rfl trivial ?_
          refine ww_sub (L := [(0, .inr (.inr (.inl (some (10, t))))), (1, .inr (.inr (.inl (some (1, s))))), (3, .inl y), (4, .inl z), (5, .inl (w - r4)), (6, .inl a), (7, .inl v), (8, .inl (b + 1))]) ⟨rfl, rfl, rfl, rfl, rfl, rfl, rfl, rfl, trivial⟩ rfl rfl ?_
          exact (ih _ (by omega)).2 (w - r4) a v (b + 1) rfl (by omega)
        · show wW (zK sc) zM48 56 [(9, .inl r4), (0, .inr (.inr (.inl (some (10, t))))), (1, .inr (.inr (.inl (some (1, s))))), (3, .inl y), (4, .inl z), (5, .inl w), (6, .inl a), (7, .inl v), (8, .inl b)] [] _ _ _
          refine ww_go 1 (pc' := 57) (L' := [(9, .inl r4), (0, .inr (.inr (.inl (some (10, t))))), (1, .inr (.inr (.inl (some (1, s))))), (3, .inl y), (4, .inl z), (5, .inl w), (6, .inl a), (7, .inl v), (8, .inl b)]) (st' := [.inr (.inr (.inl (some (1, s))))]) (m' := m0) (o := none) rfl trivial ?_
          refine ww_call (vs := [.inr (.inr (.inl (some (1, s))))]) (r := []) (p := s < 171) rfl rfl rfl rfl (show s < 171 from by omega) (zs29 (c := c) (by omega) s hG (by omega)) ?_
          rintro _ _ m9 ⟨rfl, rfl, hGm9, hEm9, hr8⟩
          have hFm9 : zfr (fun k i j => (k = 1 ∧ i = s ∧ j = 1) ∨ (k = 2 ∧ i = s)) m0 m9 := zfr_tr hF hEm9 (fun k i j z => Or.inl z)
          show wW (zK sc) zM48 60 [(9, .inl r4), (0, .inr (.inr (.inl (some (10, t))))), (1, .inr (.inr (.inl (some (1, s))))), (3, .inl y), (4, .inl z), (5, .inl w), (6, .inl a), (7, .inl v), (8, .inl b)] [] _ _ _
          have zm10 : zBR m9 s = zLs [] := zLs_0 (by omega)
          refine ww_go 4 (pc' := 64) (L' := [(9, .inl r4), (0, .inr (.inr (.inl (some (10, t))))), (1, .inr (.inr (.inl (some (1, s))))), (3, .inl y), (4, .inl z), (5, .inl w), (6, .inl a), (7, .inl v), (8, .inl b)]) (st' := [.inl 1, .inr (.inl (wi2l y)), .inr (.inr (.inl (some (1, s))))]) (m' := m9) (o := none) rfl trivial ?_
          refine ww_call (vs := [.inr (.inr (.inl (some (1, s)))), .inr (.inl (wi2l y)), .inl 1]) (r := []) (p := s < 171) rfl rfl rfl rfl (show s < 171 from by omega) (zs26 (c := c) (by omega) (wi2l y) 1 s hGm9 (by omega)) ?_
          rintro _ _ m13 ⟨rfl, rfl, hGm13, hEm13, hr12⟩
          have hFm13 : zfr (fun k i j => (k = 1 ∧ i = s ∧ j = 1) ∨ (k = 2 ∧ i = s)) m0 m13 := zfr_tr hFm9 hEm13 (fun k i j z => Or.elim z (fun z => Or.inl z) (fun z => Or.inr (z)))
          show wW (zK sc) zM48 67 [(9, .inl r4), (0, .inr (.inr (.inl (some (10, t))))), (1, .inr (.inr (.inl (some (1, s))))), (3, .inl y), (4, .inl z), (5, .inl w), (6, .inl a), (7, .inl v), (8, .inl b)] [] _ _ _
          have zm14 := zLs_ap zm10 (hr12.2 (by omega) (by omega)) (by omega) (by omega)
          refine ww_go 4 (pc' := 72) (L' := [(9, .inl r4), (0, .inr (.inr (.inl (some (10, t))))), (1, .inr (.inr (.inl (some (1, s))))), (3, .inl y), (4, .inl z), (5, .inl w), (6, .inl a), (7, .inl v), (8, .inl b)]) (st' := [.inl 1, .inr (.inl (wi2l z)), .inr (.inr (.inl (some (1, s))))]) (m' := m13) (o := none) rfl trivial ?_
          refine ww_call (vs := [.inr (.inr (.inl (some (1, s)))), .inr (.inl (wi2l z)), .inl 1]) (r := []) (p := s < 171) rfl rfl rfl rfl (show s < 171 from by omega) (zs26 (c := c) (by omega) (wi2l z) 1 s hGm13 (by omega)) ?_
          rintro _ _ m17 ⟨rfl, rfl, hGm17, hEm17, hr16⟩
          have hFm17 : zfr (fun k i j => (k = 1 ∧ i = s ∧ j = 1) ∨ (k = 2 ∧ i = s)) m0 m17 := zfr_tr hFm13 hEm17 (fun k i j z => Or.elim z (fun z => Or.inl z) (fun z => Or.inr (z)))
          show wW (zK sc) zM48 75 [(9, .inl r4), (0, .inr (.inr (.inl (some (10, t))))), (1, .inr (.inr (.inl (some (1, s))))), (3, .inl y), (4, .inl z), (5, .inl w), (6, .inl a), (7, .inl v), (8, .inl b)] [] _ _ _
          have zm18 := zLs_ap zm14 (hr16.2 (by omega) (by omega)) (by omega) (by omega)
          have b19 : 0 ≤ m17.1 10 t 1 ∧ m17.1 10 t 1 ≤ 1000 := hGm17.1 10 _ rfl _ _
          refine ww_go 5 (pc' := 82) (L' := [(9, .inl r4), (0, .inr (.inr (.inl (some (10, t))))), (1, .inr (.inr (.inl (some (1, s))))), (3, .inl y), (4, .inl z), (5, .inl w), (6, .inl a), (7, .inl v), (8, .inl b)]) (st' := [.inl 2, .inr (.inl (wi2l (m17.1 10 t 1))), .inr (.inr (.inl (some (1, s))))]) (m' := m17) (o := some ((t < 6))) rfl (show (t < 6) from by omega) ?_
          refine ww_call (vs := [.inr (.inr (.inl (some (1, s)))), .inr (.inl (wi2l (m17.1 10 t 1))), .inl 2]) (r := []) (p := s < 171) rfl rfl rfl rfl (show s < 171 from by omega) (zs26 (c := c) (by omega) (wi2l (m17.1 10 t 1)) 2 s hGm17 (by omega)) ?_
          rintro _ _ m22 ⟨rfl, rfl, hGm22, hEm22, hr21⟩
          have hFm22 : zfr (fun k i j => (k = 1 ∧ i = s ∧ j = 1) ∨ (k = 2 ∧ i = s)) m0 m22 := zfr_tr hFm17 hEm22 (fun k i j z => Or.elim z (fun z => Or.inl z) (fun z => Or.inr (z)))
          show wW (zK sc) zM48 85 [(9, .inl r4), (0, .inr (.inr (.inl (some (10, t))))), (1, .inr (.inr (.inl (some (1, s))))), (3, .inl y), (4, .inl z), (5, .inl w), (6, .inl a), (7, .inl v), (8, .inl b)] [] _ _ _
          have zm23 := zLs_ap zm18 (hr21.2 (by omega) (by omega)) (by omega) (by omega)
          refine ww_go 5 (pc' := 93) (L' := [(9, .inl r4), (0, .inr (.inr (.inl (some (10, t))))), (1, .inr (.inr (.inl (some (1, s))))), (3, .inl y), (4, .inl z), (5, .inl w), (6, .inl a), (7, .inl v), (8, .inl b)]) (st' := [.inl w, .inl b, .inl a, .inr (.inr (.inl (some (1, s)))), .inr (.inr (.inl (some (10, t))))]) (m' := m22) (o := none) rfl trivial ?_
          refine ww_call (vs := [.inr (.inr (.inl (some (10, t)))), .inr (.inr (.inl (some (1, s)))), .inl a, .inl b, .inl w]) (r := []) (p := t < 6) rfl rfl rfl rfl (show t < 6 from by omega) (zs47 (c := c) (by omega) a b w t s hGm22 (by omega)) ?_
          rintro _ _ m26 ⟨rfl, rfl, hGm26, hEm26, hr25⟩
          have hFm26 : zfr (fun k i j => (k = 1 ∧ i = s ∧ j = 1) ∨ (k = 2 ∧ i = s)) m0 m26 := zfr_tr hFm22 hEm26 (fun k i j z => Or.elim z (fun z => Or.inl z) (fun z => Or.inr (z)))
          show wW (zK sc) zM48 96 [(9, .inl r4), (0, .inr (.inr (.inl (some (10, t))))), (1, .inr (.inr (.inl (some (1, s))))), (3, .inl y), (4, .inl z), (5, .inl w), (6, .inl a), (7, .inl v), (8, .inl b)] [] _ _ _
          have zm27 := hr25.2 _ zm23 (by omega)
          refine ww_go 5 (pc' := 104) (L' := [(9, .inl r4), (0, .inr (.inr (.inl (some (10, t))))), (1, .inr (.inr (.inl (some (1, s))))), (3, .inl y), (4, .inl z), (5, .inl w), (6, .inl a), (7, .inl v), (8, .inl b)]) (st' := [.inl w, .inl b, .inl a, .inr (.inr (.inl (some (10, t)))), .inr (.inr (.inl (some (1, s))))]) (m' := m26) (o := none) rfl trivial ?_
          refine ww_call (vs := [.inr (.inr (.inl (some (10, t)))), .inl a, .inl b, .inl w]) (r := [.inr (.inr (.inl (some (1, s))))]) (p := t < 6) rfl rfl rfl rfl (show t < 6 from by omega) (zs51 (c := c) (by omega) a b w t hGm26 (by omega)) ?_
          rintro _ _ _ ⟨r28, rfl, rfl, rfl, hr29⟩
          have zs1 : zBR m26 (59 + 7 * t + a.toNat) = zBR m0 (59 + 7 * t + a.toNat) := zBR_fr hFm26 (show ¬ ((1 = 1 ∧ (59 + 7 * t + a.toNat) = s ∧ 1 = 1) ∨ (1 = 2 ∧ (59 + 7 * t + a.toNat) = s)) from by omega) (fun j => (show ¬ ((2 = 1 ∧ (59 + 7 * t + a.toNat) = s ∧ j = 1) ∨ (2 = 2 ∧ (59 + 7 * t + a.toNat) = s)) from by omega))
          have zs2 : m26.1 1 (59 + 7 * t + a.toNat) 1 = m0.1 1 (59 + 7 * t + a.toNat) 1 := (hFm26 1 (59 + 7 * t + a.toNat) 1 (show ¬ ((1 = 1 ∧ (59 + 7 * t + a.toNat) = s ∧ 1 = 1) ∨ (1 = 2 ∧ (59 + 7 * t + a.toNat) = s)) from by omega)).1
          have zs3 : m26.1 10 t 1 = m0.1 10 t 1 := (hFm26 10 t 1 (show ¬ ((10 = 1 ∧ t = s ∧ 1 = 1) ∨ (10 = 2 ∧ t = s)) from by omega)).1
          have zs4 := hr29
          rw [zs1, zs2, zs3] at zs4
          show wW (zK sc) zM48 107 [(9, .inl r4), (0, .inr (.inr (.inl (some (10, t))))), (1, .inr (.inr (.inl (some (1, s))))), (3, .inl y), (4, .inl z), (5, .inl w), (6, .inl a), (7, .inl v), (8, .inl b)] [.inr (.inl r28), .inr (.inr (.inl (some (1, s))))] _ _ _
          refine ww_go 1 (pc' := 109) (L' := [(9, .inl r4), (0, .inr (.inr (.inl (some (10, t))))), (1, .inr (.inr (.inl (some (1, s))))), (3, .inl y), (4, .inl z), (5, .inl w), (6, .inl a), (7, .inl v), (8, .inl b)]) (st' := [.inl 8, .inr (.inl r28), .inr (.inr (.inl (some (1, s))))]) (m' := m26) (o := none) rfl trivial ?_
          refine ww_call (vs := [.inr (.inr (.inl (some (1, s)))), .inr (.inl r28), .inl 8]) (r := []) (p := s < 171) rfl rfl rfl rfl (show s < 171 from by omega) (zs26 (c := c) (by omega) r28 8 s hGm26 (by omega)) ?_
          rintro _ _ m32 ⟨rfl, rfl, hGm32, hEm32, hr31⟩
          have hFm32 : zfr (fun k i j => (k = 1 ∧ i = s ∧ j = 1) ∨ (k = 2 ∧ i = s)) m0 m32 := zfr_tr hFm26 hEm32 (fun k i j z => Or.elim z (fun z => Or.inl z) (fun z => Or.inr (z)))
          show wW (zK sc) zM48 112 [(9, .inl r4), (0, .inr (.inr (.inl (some (10, t))))), (1, .inr (.inr (.inl (some (1, s))))), (3, .inl y), (4, .inl z), (5, .inl w), (6, .inl a), (7, .inl v), (8, .inl b)] [] _ _ _
          have zm33 := zLs_ap zm27 (hr31.2 (by omega) (by omega)) (by omega) (by omega)
          refine ww_go 3 (pc' := 116) (L' := [(9, .inl r4), (0, .inr (.inr (.inl (some (10, t))))), (1, .inr (.inr (.inl (some (1, s))))), (3, .inl y), (4, .inl z), (5, .inl w), (6, .inl a), (7, .inl v), (8, .inl b)]) (st' := [.inl 16, .inr (.inr (.inl (some (1, s)))), .inr (.inr (.inl (some (1, s))))]) (m' := m32) (o := none) rfl trivial ?_
          refine ww_call (vs := [.inr (.inr (.inl (some (1, s)))), .inl 16]) (r := [.inr (.inr (.inl (some (1, s))))]) (p := s < 171) rfl rfl rfl rfl (show s < 171 from by omega) (zs33 (c := c) (by omega) 16 s hGm32 (by omega)) ?_
          rintro _ _ _ ⟨r34, rfl, rfl, rfl, hr35⟩
          show wW (zK sc) zM48 119 [(9, .inl r4), (0, .inr (.inr (.inl (some (10, t))))), (1, .inr (.inr (.inl (some (1, s))))), (3, .inl y), (4, .inl z), (5, .inl w), (6, .inl a), (7, .inl v), (8, .inl b)] [.inr (.inl r34), .inr (.inr (.inl (some (1, s))))] _ _ _
          refine ww_go 1 (pc' := 121) (L' := [(9, .inl r4), (0, .inr (.inr (.inl (some (10, t))))), (1, .inr (.inr (.inl (some (1, s))))), (3, .inl y), (4, .inl z), (5, .inl w), (6, .inl a), (7, .inl v), (8, .inl b)]) (st' := [.inl 8, .inr (.inl r34), .inr (.inr (.inl (some (1, s))))]) (m' := m32) (o := none) rfl trivial ?_
          refine ww_call (vs := [.inr (.inr (.inl (some (1, s)))), .inr (.inl r34), .inl 8]) (r := []) (p := s < 171) rfl rfl rfl rfl (show s < 171 from by omega) (zs26 (c := c) (by omega) r34 8 s hGm32 (by omega)) ?_
          rintro _ _ m38 ⟨rfl, rfl, hGm38, hEm38, hr37⟩
          have hFm38 : zfr (fun k i j => (k = 1 ∧ i = s ∧ j = 1) ∨ (k = 2 ∧ i = s)) m0 m38 := zfr_tr hFm32 hEm38 (fun k i j z => Or.elim z (fun z => Or.inl z) (fun z => Or.inr (z)))
          show wW (zK sc) zM48 124 [(9, .inl r4), (0, .inr (.inr (.inl (some (10, t))))), (1, .inr (.inr (.inl (some (1, s))))), (3, .inl y), (4, .inl z), (5, .inl w), (6, .inl a), (7, .inl v), (8, .inl b)] [] _ _ _
          have zm39 := zLs_ap zm33 (hr37.2 (by omega) (by omega)) (by omega) (by omega)
          have zn1 : m17.1 10 t 1 = m0.1 10 t 1 := (hFm17 10 t 1 (show ¬ ((10 = 1 ∧ t = s ∧ 1 = 1) ∨ (10 = 2 ∧ t = s)) from by omega)).1
          have zn2 : m22.1 1 (59 + 7 * t + a.toNat) 1 = m0.1 1 (59 + 7 * t + a.toNat) 1 := (hFm22 1 (59 + 7 * t + a.toNat) 1 (show ¬ ((1 = 1 ∧ (59 + 7 * t + a.toNat) = s ∧ 1 = 1) ∨ (1 = 2 ∧ (59 + 7 * t + a.toNat) = s)) from by omega)).1
          have zh1 := hr35
          rw [zm33] at zh1
          have zh2 : (fun q => (zLs _).2 q) = (fun q => List.getD _ q 0) := funext fun q => zLs_2 (l := zPL y z (m0.1 10 t 1) a b w (m0.1 1 (59 + 7 * t + a.toNat) 1) (zsm (zBR m0 (59 + 7 * t + a.toNat)).2 (zmk (m0.1 10 t 1) a b w (zpc (m0.1 1 (59 + 7 * t + a.toNat) 1) b)) b (zpc (m0.1 1 (59 + 7 * t + a.toNat) 1) b).toNat))
          have zz9 := zm39
          rw [zh1, zs4, zn1, zn2] at zz9
          exact ww_rV rfl rfl ⟨rfl, rfl, zB_mono hGm38 (by omega), hFm38, fun _ => ⟨by omega, a, b, w, ⟨by omega, by omega, by omega, by omega, by rw [tw9]; rw [← hv9]; omega, by rw [tw9]; rw [← hv9]; omega⟩, zz9.trans (congrArg zLs (congrArg (fun g => zPL y z (m0.1 10 t 1) a b w (m0.1 1 (59 + 7 * t + a.toNat) 1) (zsm (zBR m0 (59 + 7 * t + a.toNat)).2 (zmk (m0.1 10 t 1) a b w (zpc (m0.1 1 (59 + 7 * t + a.toNat) 1) b)) b (zpc (m0.1 1 (59 + 7 * t + a.toNat) 1) b).toNat) ++ zbl (zhh g 16) 8) zh2))⟩⟩
set_option maxRecDepth 8000 in
/-- Edition.fillPacket -/
theorem zs48 {sc : xSc} {n : Nat × Nat} {m0 : wm} {c : Int} (hc : 0 ≤ c ∧ c ≤ 1000000) (x : Int) (y : Int) (z : Int) (t : Nat) (s : Nat) (hG : zB c m0) (h0 : t < 6 ∧ 3 ≤ s ∧ s < 35 ∧ 0 ≤ x ∧ x ≤ 1000000) : wX (zK sc) 48 [.inr (.inr (.inl (some (10, t)))), .inr (.inr (.inl (some (1, s)))), .inl x, .inl y, .inl z] n m0 (wr (fun vv n1 m1 => vv = none ∧ n = n1 ∧ zB c m1 ∧ zfr (fun k i j => (k = 1 ∧ i = s ∧ j = 1) ∨ (k = 2 ∧ i = s)) m0 m1 ∧ (x < zEP m0 t → m1.1 1 s 1 = 24 ∧ ∃ a b j : Int, zLo (zge m0 t) (m0.1 10 t 2) x a b j ∧ zBR m1 s = zLs (zPK y z (m0.1 10 t 1) a b j (m0.1 1 (59 + 7 * t + a.toNat) 1) (zsm (zBR m0 (59 + 7 * t + a.toNat)).2 (zmk (m0.1 10 t 1) a b j (zpc (m0.1 1 (59 + 7 * t + a.toNat) 1) b)) b (zpc (m0.1 1 (59 + 7 * t + a.toNat) 1) b).toNat))))) := by
  refine wX_of (N := zM48) rfl (Nat.le_of_ble_eq_true rfl) ?_
  show wW (zK sc) zM48 0 [(0, .inr (.inr (.inl (some (10, t))))), (1, .inr (.inr (.inl (some (1, s))))), (2, .inl x), (3, .inl y), (4, .inl z)] [] n m0 _
  have hF : zfr (fun k i j => (k = 1 ∧ i = s ∧ j = 1) ∨ (k = 2 ∧ i = s)) m0 m0 := zfr_rf
  have zs9 : zlim s = 24 := zlim_sl (by omega) (by omega)
  have bi : 0 ≤ m0.1 10 t 2 ∧ m0.1 10 t 2 ≤ 7 := hG.1 10 _ rfl t 2
  have z0 : zTq (zge m0 t) (0 : Int).toNat = 0 := rfl
  refine ww_go 4 (pc' := 6) (L' := [(6, .inl 0), (5, .inl x), (0, .inr (.inr (.inl (some (10, t))))), (1, .inr (.inr (.inl (some (1, s))))), (2, .inl x), (3, .inl y), (4, .inl z)]) (st' := []) (m' := m0) (o := none) rfl trivial ?_
  refine ww_sub (L := [(0, .inr (.inr (.inl (some (10, t))))), (1, .inr (.inr (.inl (some (1, s))))), (3, .inl y), (4, .inl z), (5, .inl x), (6, .inl 0)]) ⟨rfl, rfl, rfl, rfl, rfl, rfl, trivial⟩ rfl rfl ?_
  exact (zs48_l6 hc x y z t s hG h0 _).1 x 0 rfl (by omega)
set_option maxRecDepth 8000 in
/-- Folder.makeVersion -/
theorem zs57 {sc : xSc} {n : Nat × Nat} {m0 : wm} {c : Int} (hc : 0 ≤ c ∧ c ≤ 1000000) (t : Nat) (hG : zB c m0) (h0 : t < 2) : wX (zK sc) 57 [.inr (.inr (.inl (some (6, t))))] n m0 (wr (fun vv n1 m1 => ∃ r : Int, vv = some (.inl r) ∧ n = n1 ∧ zB c m1 ∧ zfr (fun k i j => (k = 6 ∧ i = t ∧ j = 4) ∨ (k = 10 ∧ 3 * t ≤ i ∧ i < 3 * t + 3) ∨ (k = 1 ∧ 59 ≤ i ∧ i < 101 ∧ j = 1) ∨ (k = 2 ∧ 59 ≤ i ∧ i < 101)) m0 m1 ∧ ((r = 0 ∧ m0.1 6 t 4 = 1000 ∧ m0 = m1) ∨ (r = m0.1 6 t 4 + 1 ∧ m0.1 6 t 4 < 1000 ∧ m1.1 6 t 4 = r ∧ zRec m0 m1 (3 * t + ((m0.1 6 t 4 + 1) % 3).toNat) t (m0.1 6 t 4 + 1))))) := by
  refine wX_of (N := zM57) rfl (Nat.le_of_ble_eq_true rfl) ?_
  show wW (zK sc) zM57 0 [(0, .inr (.inr (.inl (some (6, t)))))] [] n m0 _
  have hF : zfr (fun k i j => (k = 6 ∧ i = t ∧ j = 4) ∨ (k = 10 ∧ 3 * t ≤ i ∧ i < 3 * t + 3) ∨ (k = 1 ∧ 59 ≤ i ∧ i < 101 ∧ j = 1) ∨ (k = 2 ∧ 59 ≤ i ∧ i < 101)) m0 m0 := zfr_rf
  have bl : 0 ≤ m0.1 6 t 4 ∧ m0.1 6 t 4 ≤ 1000 := hG.1 6 _ rfl _ _
  have bf : 0 ≤ m0.1 6 t 3 ∧ m0.1 6 t 3 ≤ 6 := hG.1 6 _ rfl _ _
  have b1 : 0 ≤ m0.1 6 t 4 ∧ m0.1 6 t 4 ≤ 1000 := hG.1 6 _ rfl _ _
  refine ww_go 3 (pc' := 7) (L' := [(0, .inr (.inr (.inl (some (6, t)))))]) (st' := [.inl 1000, .inl (m0.1 6 t 4)]) (m' := m0) (o := some ((t < 2))) rfl (show (t < 2) from by omega) ?_
  refine ww_ic (t := 12) rfl rfl (by omega) (fun (h2 : m0.1 6 t 4 < 1000) => ?_) (fun (h2 : ¬ (m0.1 6 t 4 < 1000)) => ?_)
  · show wW (zK sc) zM57 12 [(0, .inr (.inr (.inl (some (6, t)))))] [] _ _ _
    have b3 : 0 ≤ m0.1 6 t 4 ∧ m0.1 6 t 4 ≤ 1000 := hG.1 6 _ rfl _ _
    refine ww_go 6 (pc' := 22) (L' := [(0, .inr (.inr (.inl (some (6, t)))))]) (st' := []) (m' := wuI m0 6 t 4 ((m0.1 6 t 4) + 1)) (o := some ((t < 2) ∧ (t < 2))) rfl (show (t < 2) ∧ (t < 2) from by omega) ?_
    obtain ⟨m4, hm4⟩ : ∃ zq9 : wm, zq9 = wuI m0 6 t 4 ((m0.1 6 t 4) + 1) := ⟨_, rfl⟩
    rw [← hm4]
    have hGm4 : zB c m4 := by rw [hm4]; exact zB_wI rfl (show 0 ≤ (m0.1 6 t 4) + 1 ∧ (m0.1 6 t 4) + 1 ≤ 1000 from by omega) hG
    have hFm4 : zfr (fun k i j => (k = 6 ∧ i = t ∧ j = 4) ∨ (k = 10 ∧ 3 * t ≤ i ∧ i < 3 * t + 3) ∨ (k = 1 ∧ 59 ≤ i ∧ i < 101 ∧ j = 1) ∨ (k = 2 ∧ 59 ≤ i ∧ i < 101)) m0 m4 := by rw [hm4]; exact zfr_wI hF (show (6 = 6 ∧ t = t ∧ 4 = 4) ∨ (6 = 10 ∧ 3 * t ≤ t ∧ t < 3 * t + 3) ∨ (6 = 1 ∧ 59 ≤ t ∧ t < 101 ∧ 4 = 1) ∨ (6 = 2 ∧ 59 ≤ t ∧ t < 101) from Or.inl ((show (6 = 6 ∧ t = t ∧ 4 = 4) from by omega)))
    have s5 : m4.1 6 t 4 = (m0.1 6 t 4) + 1 := by rw [hm4]; exact wuI_self
    have w6 : m4.1 6 t 3 = m0.1 6 t 3 := by rw [hm4]; exact wuI_nj (by omega)
    have b7 : 0 ≤ m4.1 6 t 4 ∧ m4.1 6 t 4 ≤ 1000 := hGm4.1 6 _ rfl _ _
    have t8 : (0 ≤ (m4.1 6 t 4) → (m4.1 6 t 4).tmod 3 = (m4.1 6 t 4) % 3) ∧ ((m4.1 6 t 4) < 0 → (m4.1 6 t 4).tmod 3 = -((-((m4.1 6 t 4))) % 3)) := ⟨fun z => Int.tmod_eq_emod_of_nonneg z, fun z => wtmod_neg z⟩
    refine ww_go 10 (pc' := 38) (L' := [(0, .inr (.inr (.inl (some (6, t)))))]) (st' := [.inr (.inr (.inl (some (6, t)))), .inl (m4.1 6 t 4), .inr (.inr (.inl (some (10, 3 * t + (((m4.1 6 t 4).tmod 3).toNat)))))]) (m' := m4) (o := some ((t < 2) ∧ (t < 2) ∧ (-2147483648 ≤ m4.1 6 t 4 ∧ m4.1 6 t 4 ≤ 2147483647 ∧ 0 < (3 : Int) ∧ (3 : Int) ≤ 2147483647) ∧ (t < 2 ∧ 0 ≤ (m4.1 6 t 4).tmod 3 ∧ (m4.1 6 t 4).tmod 3 < ((3 : Nat) : Int)) ∧ (t < 2))) rfl (show (t < 2) ∧ (t < 2) ∧ (-2147483648 ≤ m4.1 6 t 4 ∧ m4.1 6 t 4 ≤ 2147483647 ∧ 0 < (3 : Int) ∧ (3 : Int) ≤ 2147483647) ∧ (t < 2 ∧ 0 ≤ (m4.1 6 t 4).tmod 3 ∧ (m4.1 6 t 4).tmod 3 < ((3 : Nat) : Int)) ∧ (t < 2) from by omega) ?_
    refine ww_call (vs := [.inr (.inr (.inl (some (10, 3 * t + (((m4.1 6 t 4).tmod 3).toNat))))), .inl (m4.1 6 t 4), .inr (.inr (.inl (some (6, t))))]) (r := []) (p := 3 * t + (((m4.1 6 t 4).tmod 3).toNat) < 6) rfl rfl rfl rfl (show 3 * t + (((m4.1 6 t 4).tmod 3).toNat) < 6 from by omega) (zs50 (c := c) (by omega) (m4.1 6 t 4) (3 * t + (((m4.1 6 t 4).tmod 3).toNat)) t hGm4 (by omega)) ?_
    rintro _ _ m11 ⟨rfl, rfl, hGm11, hEm11, hr10⟩
    have hFm11 : zfr (fun k i j => (k = 6 ∧ i = t ∧ j = 4) ∨ (k = 10 ∧ 3 * t ≤ i ∧ i < 3 * t + 3) ∨ (k = 1 ∧ 59 ≤ i ∧ i < 101 ∧ j = 1) ∨ (k = 2 ∧ 59 ≤ i ∧ i < 101)) m0 m11 := zfr_tr hFm4 hEm11 (fun k i j z => Or.elim z (fun z => (show (k = 6 ∧ i = t ∧ j = 4) ∨ (k = 10 ∧ 3 * t ≤ i ∧ i < 3 * t + 3) ∨ (k = 1 ∧ 59 ≤ i ∧ i < 101 ∧ j = 1) ∨ (k = 2 ∧ 59 ≤ i ∧ i < 101) from Or.inr (Or.inl ((show k = 10 ∧ 3 * t ≤ i ∧ i < 3 * t + 3 from by omega))))) (fun z => Or.elim z (fun z => (show (k = 6 ∧ i = t ∧ j = 4) ∨ (k = 10 ∧ 3 * t ≤ i ∧ i < 3 * t + 3) ∨ (k = 1 ∧ 59 ≤ i ∧ i < 101 ∧ j = 1) ∨ (k = 2 ∧ 59 ≤ i ∧ i < 101) from Or.inr (Or.inr (Or.inl ((show k = 1 ∧ 59 ≤ i ∧ i < 101 ∧ j = 1 from by omega)))))) (fun z => (show (k = 6 ∧ i = t ∧ j = 4) ∨ (k = 10 ∧ 3 * t ≤ i ∧ i < 3 * t + 3) ∨ (k = 1 ∧ 59 ≤ i ∧ i < 101 ∧ j = 1) ∨ (k = 2 ∧ 59 ≤ i ∧ i < 101) from Or.inr (Or.inr (Or.inr ((show k = 2 ∧ 59 ≤ i ∧ i < 101 from by omega))))))))
    have w12 : m11.1 6 t 4 = m4.1 6 t 4 := (hEm11 6 t 4 (show ¬ ((6 = 10 ∧ t = (3 * t + (((m4.1 6 t 4).tmod 3).toNat))) ∨ (6 = 1 ∧ 59 + 7 * (3 * t + (((m4.1 6 t 4).tmod 3).toNat)) ≤ t ∧ t < 66 + 7 * (3 * t + (((m4.1 6 t 4).tmod 3).toNat)) ∧ 4 = 1) ∨ (6 = 2 ∧ 59 + 7 * (3 * t + (((m4.1 6 t 4).tmod 3).toNat)) ≤ t ∧ t < 66 + 7 * (3 * t + (((m4.1 6 t 4).tmod 3).toNat)))) from by omega)).1
    have w13 : m11.1 6 t 3 = m4.1 6 t 3 := (hEm11 6 t 3 (show ¬ ((6 = 10 ∧ t = (3 * t + (((m4.1 6 t 4).tmod 3).toNat))) ∨ (6 = 1 ∧ 59 + 7 * (3 * t + (((m4.1 6 t 4).tmod 3).toNat)) ≤ t ∧ t < 66 + 7 * (3 * t + (((m4.1 6 t 4).tmod 3).toNat)) ∧ 3 = 1) ∨ (6 = 2 ∧ 59 + 7 * (3 * t + (((m4.1 6 t 4).tmod 3).toNat)) ≤ t ∧ t < 66 + 7 * (3 * t + (((m4.1 6 t 4).tmod 3).toNat)))) from by omega)).1
    show wW (zK sc) zM57 41 [(0, .inr (.inr (.inl (some (6, t)))))] [] _ _ _
    have zr9 : zRec m0 m11 (3 * t + ((m0.1 6 t 4 + 1) % 3).toNat) t (m0.1 6 t 4 + 1) := by
      have z9 := hr10
      rw [show 3 * t + (((m4.1 6 t 4).tmod 3).toNat) = 3 * t + ((m0.1 6 t 4 + 1) % 3).toNat from by omega, show m4.1 6 t 4 = m0.1 6 t 4 + 1 from by omega] at z9
      rw [hm4] at z9
      exact zRec_w z9
    obtain ⟨zn8, -, -, -, -⟩ := id zr9
    have b14 : 0 ≤ m11.1 6 t 4 ∧ m11.1 6 t 4 ≤ 1000 := hGm11.1 6 _ rfl _ _
    refine ww_go 2 (pc' := 45) (L' := [(0, .inr (.inr (.inl (some (6, t)))))]) (st' := [.inl (m11.1 6 t 4)]) (m' := m11) (o := some ((t < 2))) rfl (show (t < 2) from by omega) ?_
    exact ww_rI rfl rfl ⟨_, rfl, rfl, zB_mono hGm11 (by omega), hFm11, Or.inr ⟨by omega, by omega, by omega, zr9⟩⟩
  · show wW (zK sc) zM57 10 [(0, .inr (.inr (.inl (some (6, t)))))] [] _ _ _
    refine ww_go 1 (pc' := 11) (L' := [(0, .inr (.inr (.inl (some (6, t)))))]) (st' := [.inl 0]) (m' := m0) (o := none) rfl trivial ?_
    exact ww_rI rfl rfl ⟨_, rfl, rfl, zB_mono hG (by omega), hF, Or.inl ⟨rfl, by omega, rfl⟩⟩
