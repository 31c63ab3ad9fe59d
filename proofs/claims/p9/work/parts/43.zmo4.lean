set_option maxRecDepth 8000 in
theorem zs242_l212 {sc : xSc} {n : Nat × Nat} {m0 : wm} {c : Int} (hc : 0 ≤ c ∧ c ≤ 900000)  (hG : zB c m0) (hr9 : zRC m0) : ∀ (d : Nat), ∀ (w : Int) (q : Int) (t : Int) (y : Int) (z : Int) (v : Int64) (k : Int) (tG : Int) (gG : Int) (fG : Int) (vG : Int) (pG : Int) (aG : Int) (bG : Int) (jG : Int) (m : wm), (8 - k).toNat = d → zB (c + 3) m → zfr (fun k i j => (k = 34 ∧ j = 0) ∨ (k = 34 ∧ j = 15 ∧ 1 ≤ m0.1 42 0 0 + m0.1 42 0 1) ∨ (k = 34 ∧ j = 16) ∨ (k = 46 ∧ 1 ≤ m0.1 42 0 0 + m0.1 42 0 1) ∨ (k = 49) ∨ (k = 47 ∧ 24 * (m0.1 34 0 16 % 32).toNat ≤ j ∧ j < 24 * (m0.1 34 0 16 % 32).toNat + 24 ∧ 1 ≤ m0.1 42 0 0 + m0.1 42 0 1) ∨ (k = 48 ∧ j = (m0.1 34 0 16 % 32).toNat ∧ 1 ≤ m0.1 42 0 0 + m0.1 42 0 1)) m0 m → (w = 0 ∧ 0 ≤ q ∧ q ≤ 31 ∧ 0 ≤ t ∧ t ≤ 41 ∧ 1 ≤ y ∧ y ≤ 8 ∧ 0 ≤ k ∧ k ≤ y ∧ 1 ≤ m0.1 42 0 0 + m0.1 42 0 1) → (m.1 34 0 0 = 0 ∧ q = m0.1 34 0 16 % 32 ∧ m.1 34 0 16 = m0.1 34 0 16 + 1) → (zSz m0 m tG gG fG vG pG aG bG jG) → (zFd m fG vG aG bG jG) → (t.toNat = 7 * (3 * fG.toNat + (vG % 3).toNat) + aG.toNat) → (y = zpc (zKR m0 (3 * fG.toNat + (vG % 3).toNat) aG.toNat).1 bG) → (z = zmk vG aG bG jG y) → (v = zsm (zKR m0 (3 * fG.toNat + (vG % 3).toNat) aG.toNat).2 z bG k.toNat) →  wW (zK sc) zM242 212 [(0, .inr (.inr (.inl (some (34, 0))))), (2, .inl w), (3, .inl q), (4, .inl t), (5, .inl y), (6, .inl z), (7, .inr (.inl v)), (9, .inl k)] [] n m (wr (fun vv n1 m1 => ∃ r : Int, vv = some (.inl r) ∧ n = n1 ∧ zB (c + 3) m1 ∧ zfr (fun k i j => (k = 34 ∧ j = 0) ∨ (k = 34 ∧ j = 15 ∧ 1 ≤ m0.1 42 0 0 + m0.1 42 0 1) ∨ (k = 34 ∧ j = 16) ∨ (k = 46 ∧ 1 ≤ m0.1 42 0 0 + m0.1 42 0 1) ∨ (k = 49) ∨ (k = 47 ∧ 24 * (m0.1 34 0 16 % 32).toNat ≤ j ∧ j < 24 * (m0.1 34 0 16 % 32).toNat + 24 ∧ 1 ≤ m0.1 42 0 0 + m0.1 42 0 1) ∨ (k = 48 ∧ j = (m0.1 34 0 16 % 32).toNat ∧ 1 ≤ m0.1 42 0 0 + m0.1 42 0 1)) m0 m1 ∧ ((m1.1 34 0 0 = 1 ∧ m0.1 42 0 0 + m0.1 42 0 1 = 0 ∧ m1.1 34 0 16 = m0.1 34 0 16 ∧ m1.1 48 0 (m0.1 34 0 16 % 32).toNat = m0.1 48 0 (m0.1 34 0 16 % 32).toNat ∧ m1.1 34 0 15 = m0.1 34 0 15 ∧ m1.1 46 0 = m0.1 46 0) ∨ (m1.1 34 0 0 = 0 ∧ 1 ≤ m0.1 42 0 0 + m0.1 42 0 1 ∧ r = m0.1 34 0 16 % 32 ∧ m1.1 34 0 16 = m0.1 34 0 16 + 1 ∧ m1.1 48 0 (m0.1 34 0 16 % 32).toNat = 1 ∧ zSnd m0 m1 (m0.1 34 0 16 % 32).toNat)))) := by
  intro d
  induction d using Nat.strongRecOn with
  | ind d ih =>
    intro w q t y z v k tG gG fG vG pG aG bG jG m hd hGm hFm hi hm hz0 hf ht hy hz hv
    have b0 : 0 ≤ m0.1 42 0 0 ∧ m0.1 42 0 0 ≤ 1000 := hG.1 42 _ rfl _ _
    have b1 : 0 ≤ m0.1 42 0 1 ∧ m0.1 42 0 1 ≤ 1000 := hG.1 42 _ rfl _ _
    have b2 : 0 ≤ m0.1 34 0 16 ∧ m0.1 34 0 16 ≤ c := hG.1 34 _ rfl _ _
    have b3 : 0 ≤ m0.1 34 0 15 ∧ m0.1 34 0 15 ≤ c := hG.1 34 _ rfl _ _
    have hO1 : 1 ≤ m0.1 42 0 0 + m0.1 42 0 1 → 1 ≤ zRO m0 1 := fun h => zRO_1 hr9 (by omega)
    obtain ⟨hf0, hf1, hf2, hf3, hf4⟩ := id hf
    have hk9 := hz0.2.2.1
    obtain ⟨zf0, zf1, zv1, zv2, -, zp0, zp1, -⟩ := id hk9
    obtain ⟨za0, za1, zb1, zj0, zj1, -⟩ := id hz0.2.2.2.1
    have zgs : zgr m0 (3 * fG.toNat + (vG % 3).toNat) aG.toNat = (zKR m0 (3 * fG.toNat + (vG % 3).toNat) aG.toNat).1 := rfl
    have zq8 : 0 ≤ m0.1 43 0 (3 * fG.toNat + (vG % 3).toNat) ∧ m0.1 43 0 (3 * fG.toNat + (vG % 3).toNat) ≤ 7 := hG.1 43 _ rfl _ _
    obtain ⟨zg0, zg1, zg2⟩ := id hz0.2.2.2.2
    have zt9 : tG = 0 ∨ tG = 1 := hz0.1.elim (fun z => Or.inl z.1) (fun z => Or.inr z.1)
    refine ww_go 2 (pc' := 216) (L' := [(0, .inr (.inr (.inl (some (34, 0))))), (2, .inl w), (3, .inl q), (4, .inl t), (5, .inl y), (6, .inl z), (7, .inr (.inl v)), (9, .inl k)]) (st' := [.inl y, .inl k]) (m' := m) (o := none) rfl trivial ?_
    refine ww_ic (t := 260) rfl rfl (by omega) (fun (h1 : y ≤ k) => ?_) (fun (h1 : ¬ (y ≤ k)) => ?_)
    · show wW (zK sc) zM242 260 [(0, .inr (.inr (.inl (some (34, 0))))), (2, .inl w), (3, .inl q), (4, .inl t), (5, .inl y), (6, .inl z), (7, .inr (.inl v)), (9, .inl k)] [] _ _ _
      have b2 : 1 ≤ m.1 34 0 14 ∧ m.1 34 0 14 ≤ 255 := hGm.1 34 _ rfl _ _
      refine ww_go 7 (pc' := 269) (L' := [(0, .inr (.inr (.inl (some (34, 0))))), (2, .inl w), (3, .inl q), (4, .inl t), (5, .inl y), (6, .inl z), (7, .inr (.inl v)), (9, .inl k)]) (st' := [.inl 1, .inr (.inl (wi2l (m.1 34 0 14))), .inl 0, .inl q, .inr (.inr (.inl (some (34, 0))))]) (m' := m) (o := some ((0 < 1))) rfl (show (0 < 1) from by omega) ?_
      refine ww_call (vs := [.inr (.inr (.inl (some (34, 0)))), .inl q, .inl 0, .inr (.inl (wi2l (m.1 34 0 14))), .inl 1]) (r := []) (p := 0 < 1) rfl rfl rfl rfl (show 0 < 1 from by omega) (zs218 (c := (c + 3)) (by omega) q 0 (wi2l (m.1 34 0 14)) 1 hGm (by omega)) ?_
      rintro _ _ m5 ⟨rfl, rfl, hGm5, hEm5, hr4⟩
      have hFm5 : zfr (fun k i j => (k = 34 ∧ j = 0) ∨ (k = 34 ∧ j = 15 ∧ 1 ≤ m0.1 42 0 0 + m0.1 42 0 1) ∨ (k = 34 ∧ j = 16) ∨ (k = 46 ∧ 1 ≤ m0.1 42 0 0 + m0.1 42 0 1) ∨ (k = 49) ∨ (k = 47 ∧ 24 * (m0.1 34 0 16 % 32).toNat ≤ j ∧ j < 24 * (m0.1 34 0 16 % 32).toNat + 24 ∧ 1 ≤ m0.1 42 0 0 + m0.1 42 0 1) ∨ (k = 48 ∧ j = (m0.1 34 0 16 % 32).toNat ∧ 1 ≤ m0.1 42 0 0 + m0.1 42 0 1)) m0 m5 := zfr_tr hFm hEm5 (fun k i j z => (show (k = 34 ∧ j = 0) ∨ (k = 34 ∧ j = 15 ∧ 1 ≤ m0.1 42 0 0 + m0.1 42 0 1) ∨ (k = 34 ∧ j = 16) ∨ (k = 46 ∧ 1 ≤ m0.1 42 0 0 + m0.1 42 0 1) ∨ (k = 49) ∨ (k = 47 ∧ 24 * (m0.1 34 0 16 % 32).toNat ≤ j ∧ j < 24 * (m0.1 34 0 16 % 32).toNat + 24 ∧ 1 ≤ m0.1 42 0 0 + m0.1 42 0 1) ∨ (k = 48 ∧ j = (m0.1 34 0 16 % 32).toNat ∧ 1 ≤ m0.1 42 0 0 + m0.1 42 0 1) from Or.inr (Or.inr (Or.inr (Or.inr (Or.inr (Or.inl ((show k = 47 ∧ 24 * (m0.1 34 0 16 % 32).toNat ≤ j ∧ j < 24 * (m0.1 34 0 16 % 32).toNat + 24 ∧ 1 ≤ m0.1 42 0 0 + m0.1 42 0 1 from by omega)))))))))
      have w6 : m5.1 34 0 0 = m.1 34 0 0 := (hEm5 34 0 0 (show ¬ ((34 = 47 ∧ (24 * q + 0).toNat ≤ 0 ∧ 0 < (24 * q + 0 + 1).toNat)) from by omega)).1
      have w7 : m5.1 34 0 16 = m.1 34 0 16 := (hEm5 34 0 16 (show ¬ ((34 = 47 ∧ (24 * q + 0).toNat ≤ 16 ∧ 16 < (24 * q + 0 + 1).toNat)) from by omega)).1
      have w8 : m5.1 34 0 15 = m.1 34 0 15 := (hEm5 34 0 15 (show ¬ ((34 = 47 ∧ (24 * q + 0).toNat ≤ 15 ∧ 15 < (24 * q + 0 + 1).toNat)) from by omega)).1
      have w9 : m5.1 48 0 ((m0.1 34 0 16 % 32).toNat) = m.1 48 0 ((m0.1 34 0 16 % 32).toNat) := (hEm5 48 0 ((m0.1 34 0 16 % 32).toNat) (show ¬ ((48 = 47 ∧ (24 * q + 0).toNat ≤ ((m0.1 34 0 16 % 32).toNat) ∧ ((m0.1 34 0 16 % 32).toNat) < (24 * q + 0 + 1).toNat)) from by omega)).1
      have w10 : m5.1 49 0 0 = m.1 49 0 0 := (hEm5 49 0 0 (show ¬ ((49 = 47 ∧ (24 * q + 0).toNat ≤ 0 ∧ 0 < (24 * q + 0 + 1).toNat)) from by omega)).1
      have w11 : m5.1 49 0 1 = m.1 49 0 1 := (hEm5 49 0 1 (show ¬ ((49 = 47 ∧ (24 * q + 0).toNat ≤ 1 ∧ 1 < (24 * q + 0 + 1).toNat)) from by omega)).1
      have w12 : m5.1 49 0 2 = m.1 49 0 2 := (hEm5 49 0 2 (show ¬ ((49 = 47 ∧ (24 * q + 0).toNat ≤ 2 ∧ 2 < (24 * q + 0 + 1).toNat)) from by omega)).1
      have w13 : m5.1 49 0 3 = m.1 49 0 3 := (hEm5 49 0 3 (show ¬ ((49 = 47 ∧ (24 * q + 0).toNat ≤ 3 ∧ 3 < (24 * q + 0 + 1).toNat)) from by omega)).1
      have w14 : m5.1 49 0 4 = m.1 49 0 4 := (hEm5 49 0 4 (show ¬ ((49 = 47 ∧ (24 * q + 0).toNat ≤ 4 ∧ 4 < (24 * q + 0 + 1).toNat)) from by omega)).1
      have w15 : m5.1 46 0 tG.toNat = m.1 46 0 tG.toNat := (hEm5 46 0 tG.toNat (show ¬ ((46 = 47 ∧ (24 * q + 0).toNat ≤ tG.toNat ∧ tG.toNat < (24 * q + 0 + 1).toNat)) from by omega)).1
      have w16 : m5.1 46 0 ((1 - tG).toNat) = m.1 46 0 ((1 - tG).toNat) := (hEm5 46 0 ((1 - tG).toNat) (show ¬ ((46 = 47 ∧ (24 * q + 0).toNat ≤ ((1 - tG).toNat) ∧ ((1 - tG).toNat) < (24 * q + 0 + 1).toNat)) from by omega)).1
      show wW (zK sc) zM242 272 [(0, .inr (.inr (.inl (some (34, 0))))), (2, .inl w), (3, .inl q), (4, .inl t), (5, .inl y), (6, .inl z), (7, .inr (.inl v)), (9, .inl k)] [] _ _ _
      have zs17q := zSL_y (m := m) (m1 := m5) (s := q.toNat) (q := q) (a := 0) (a' := 1) (y := 1) (v := wi2l (m.1 34 0 14)) zSL_0 hEm5 (fun j hj => (show ¬ ((47 = 47 ∧ (24 * q + 0).toNat ≤ j ∧ j < (24 * q + 0 + 1).toNat)) from by omega)) hr4 (by omega) (by omega) (by omega)
      rw [show m.1 34 0 14 = m0.1 34 0 14 from (hFm 34 0 14 (show ¬ ((34 = 34 ∧ 14 = 0) ∨ (34 = 34 ∧ 14 = 15 ∧ 1 ≤ m0.1 42 0 0 + m0.1 42 0 1) ∨ (34 = 34 ∧ 14 = 16) ∨ (34 = 46 ∧ 1 ≤ m0.1 42 0 0 + m0.1 42 0 1) ∨ (34 = 49) ∨ (34 = 47 ∧ 24 * (m0.1 34 0 16 % 32).toNat ≤ 14 ∧ 14 < 24 * (m0.1 34 0 16 % 32).toNat + 24 ∧ 1 ≤ m0.1 42 0 0 + m0.1 42 0 1) ∨ (34 = 48 ∧ 14 = (m0.1 34 0 16 % 32).toNat ∧ 1 ≤ m0.1 42 0 0 + m0.1 42 0 1)) from by omega)).1] at zs17q
      have zs17 := zs17q
      have b18 : 0 ≤ m5.1 49 0 0 ∧ m5.1 49 0 0 ≤ 1 := hGm5.1 49 _ rfl _ _
      refine ww_go 9 (pc' := 283) (L' := [(0, .inr (.inr (.inl (some (34, 0))))), (2, .inl w), (3, .inl q), (4, .inl t), (5, .inl y), (6, .inl z), (7, .inr (.inl v)), (9, .inl k)]) (st' := [.inl 1, .inr (.inl (wi2l (m5.1 49 0 0))), .inl 1, .inl q, .inr (.inr (.inl (some (34, 0))))]) (m' := m5) (o := some ((0 < 1) ∧ (0 < 1 ∧ 0 ≤ (0 : Int) ∧ (0 : Int) < ((5 : Nat) : Int)))) rfl (show (0 < 1) ∧ (0 < 1 ∧ 0 ≤ (0 : Int) ∧ (0 : Int) < ((5 : Nat) : Int)) from by omega) ?_
      refine ww_call (vs := [.inr (.inr (.inl (some (34, 0)))), .inl q, .inl 1, .inr (.inl (wi2l (m5.1 49 0 0))), .inl 1]) (r := []) (p := 0 < 1) rfl rfl rfl rfl (show 0 < 1 from by omega) (zs218 (c := (c + 3)) (by omega) q 1 (wi2l (m5.1 49 0 0)) 1 hGm5 (by omega)) ?_
      rintro _ _ m21 ⟨rfl, rfl, hGm21, hEm21, hr20⟩
      have hFm21 : zfr (fun k i j => (k = 34 ∧ j = 0) ∨ (k = 34 ∧ j = 15 ∧ 1 ≤ m0.1 42 0 0 + m0.1 42 0 1) ∨ (k = 34 ∧ j = 16) ∨ (k = 46 ∧ 1 ≤ m0.1 42 0 0 + m0.1 42 0 1) ∨ (k = 49) ∨ (k = 47 ∧ 24 * (m0.1 34 0 16 % 32).toNat ≤ j ∧ j < 24 * (m0.1 34 0 16 % 32).toNat + 24 ∧ 1 ≤ m0.1 42 0 0 + m0.1 42 0 1) ∨ (k = 48 ∧ j = (m0.1 34 0 16 % 32).toNat ∧ 1 ≤ m0.1 42 0 0 + m0.1 42 0 1)) m0 m21 := zfr_tr hFm5 hEm21 (fun k i j z => (show (k = 34 ∧ j = 0) ∨ (k = 34 ∧ j = 15 ∧ 1 ≤ m0.1 42 0 0 + m0.1 42 0 1) ∨ (k = 34 ∧ j = 16) ∨ (k = 46 ∧ 1 ≤ m0.1 42 0 0 + m0.1 42 0 1) ∨ (k = 49) ∨ (k = 47 ∧ 24 * (m0.1 34 0 16 % 32).toNat ≤ j ∧ j < 24 * (m0.1 34 0 16 % 32).toNat + 24 ∧ 1 ≤ m0.1 42 0 0 + m0.1 42 0 1) ∨ (k = 48 ∧ j = (m0.1 34 0 16 % 32).toNat ∧ 1 ≤ m0.1 42 0 0 + m0.1 42 0 1) from Or.inr (Or.inr (Or.inr (Or.inr (Or.inr (Or.inl ((show k = 47 ∧ 24 * (m0.1 34 0 16 % 32).toNat ≤ j ∧ j < 24 * (m0.1 34 0 16 % 32).toNat + 24 ∧ 1 ≤ m0.1 42 0 0 + m0.1 42 0 1 from by omega)))))))))
      have w22 : m21.1 34 0 0 = m5.1 34 0 0 := (hEm21 34 0 0 (show ¬ ((34 = 47 ∧ (24 * q + 1).toNat ≤ 0 ∧ 0 < (24 * q + 1 + 1).toNat)) from by omega)).1
      have w23 : m21.1 34 0 16 = m5.1 34 0 16 := (hEm21 34 0 16 (show ¬ ((34 = 47 ∧ (24 * q + 1).toNat ≤ 16 ∧ 16 < (24 * q + 1 + 1).toNat)) from by omega)).1
      have w24 : m21.1 34 0 15 = m5.1 34 0 15 := (hEm21 34 0 15 (show ¬ ((34 = 47 ∧ (24 * q + 1).toNat ≤ 15 ∧ 15 < (24 * q + 1 + 1).toNat)) from by omega)).1
      have w25 : m21.1 48 0 ((m0.1 34 0 16 % 32).toNat) = m5.1 48 0 ((m0.1 34 0 16 % 32).toNat) := (hEm21 48 0 ((m0.1 34 0 16 % 32).toNat) (show ¬ ((48 = 47 ∧ (24 * q + 1).toNat ≤ ((m0.1 34 0 16 % 32).toNat) ∧ ((m0.1 34 0 16 % 32).toNat) < (24 * q + 1 + 1).toNat)) from by omega)).1
      have w26 : m21.1 49 0 0 = m5.1 49 0 0 := (hEm21 49 0 0 (show ¬ ((49 = 47 ∧ (24 * q + 1).toNat ≤ 0 ∧ 0 < (24 * q + 1 + 1).toNat)) from by omega)).1
      have w27 : m21.1 49 0 1 = m5.1 49 0 1 := (hEm21 49 0 1 (show ¬ ((49 = 47 ∧ (24 * q + 1).toNat ≤ 1 ∧ 1 < (24 * q + 1 + 1).toNat)) from by omega)).1
      have w28 : m21.1 49 0 2 = m5.1 49 0 2 := (hEm21 49 0 2 (show ¬ ((49 = 47 ∧ (24 * q + 1).toNat ≤ 2 ∧ 2 < (24 * q + 1 + 1).toNat)) from by omega)).1
      have w29 : m21.1 49 0 3 = m5.1 49 0 3 := (hEm21 49 0 3 (show ¬ ((49 = 47 ∧ (24 * q + 1).toNat ≤ 3 ∧ 3 < (24 * q + 1 + 1).toNat)) from by omega)).1
      have w30 : m21.1 49 0 4 = m5.1 49 0 4 := (hEm21 49 0 4 (show ¬ ((49 = 47 ∧ (24 * q + 1).toNat ≤ 4 ∧ 4 < (24 * q + 1 + 1).toNat)) from by omega)).1
      have w31 : m21.1 46 0 tG.toNat = m5.1 46 0 tG.toNat := (hEm21 46 0 tG.toNat (show ¬ ((46 = 47 ∧ (24 * q + 1).toNat ≤ tG.toNat ∧ tG.toNat < (24 * q + 1 + 1).toNat)) from by omega)).1
      have w32 : m21.1 46 0 ((1 - tG).toNat) = m5.1 46 0 ((1 - tG).toNat) := (hEm21 46 0 ((1 - tG).toNat) (show ¬ ((46 = 47 ∧ (24 * q + 1).toNat ≤ ((1 - tG).toNat) ∧ ((1 - tG).toNat) < (24 * q + 1 + 1).toNat)) from by omega)).1
      show wW (zK sc) zM242 286 [(0, .inr (.inr (.inl (some (34, 0))))), (2, .inl w), (3, .inl q), (4, .inl t), (5, .inl y), (6, .inl z), (7, .inr (.inl v)), (9, .inl k)] [] _ _ _
      have zs33q := zSL_y (m := m5) (m1 := m21) (s := q.toNat) (q := q) (a := 1) (a' := 2) (y := 1) (v := wi2l (m5.1 49 0 0)) zs17 hEm21 (fun j hj => (show ¬ ((47 = 47 ∧ (24 * q + 1).toNat ≤ j ∧ j < (24 * q + 1 + 1).toNat)) from by omega)) hr20 (by omega) (by omega) (by omega)
      rw [show m5.1 49 0 0 = fG from by omega] at zs33q
      have zs33 := zs33q
      have b34 : 0 ≤ m21.1 49 0 1 ∧ m21.1 49 0 1 ≤ 1000 := hGm21.1 49 _ rfl _ _
      refine ww_go 9 (pc' := 297) (L' := [(0, .inr (.inr (.inl (some (34, 0))))), (2, .inl w), (3, .inl q), (4, .inl t), (5, .inl y), (6, .inl z), (7, .inr (.inl v)), (9, .inl k)]) (st' := [.inl 2, .inr (.inl (wi2l (m21.1 49 0 1))), .inl 2, .inl q, .inr (.inr (.inl (some (34, 0))))]) (m' := m21) (o := some ((0 < 1) ∧ (0 < 1 ∧ 0 ≤ (1 : Int) ∧ (1 : Int) < ((5 : Nat) : Int)))) rfl (show (0 < 1) ∧ (0 < 1 ∧ 0 ≤ (1 : Int) ∧ (1 : Int) < ((5 : Nat) : Int)) from by omega) ?_
      refine ww_call (vs := [.inr (.inr (.inl (some (34, 0)))), .inl q, .inl 2, .inr (.inl (wi2l (m21.1 49 0 1))), .inl 2]) (r := []) (p := 0 < 1) rfl rfl rfl rfl (show 0 < 1 from by omega) (zs218 (c := (c + 3)) (by omega) q 2 (wi2l (m21.1 49 0 1)) 2 hGm21 (by omega)) ?_
      rintro _ _ m37 ⟨rfl, rfl, hGm37, hEm37, hr36⟩
      have hFm37 : zfr (fun k i j => (k = 34 ∧ j = 0) ∨ (k = 34 ∧ j = 15 ∧ 1 ≤ m0.1 42 0 0 + m0.1 42 0 1) ∨ (k = 34 ∧ j = 16) ∨ (k = 46 ∧ 1 ≤ m0.1 42 0 0 + m0.1 42 0 1) ∨ (k = 49) ∨ (k = 47 ∧ 24 * (m0.1 34 0 16 % 32).toNat ≤ j ∧ j < 24 * (m0.1 34 0 16 % 32).toNat + 24 ∧ 1 ≤ m0.1 42 0 0 + m0.1 42 0 1) ∨ (k = 48 ∧ j = (m0.1 34 0 16 % 32).toNat ∧ 1 ≤ m0.1 42 0 0 + m0.1 42 0 1)) m0 m37 := zfr_tr hFm21 hEm37 (fun k i j z => (show (k = 34 ∧ j = 0) ∨ (k = 34 ∧ j = 15 ∧ 1 ≤ m0.1 42 0 0 + m0.1 42 0 1) ∨ (k = 34 ∧ j = 16) ∨ (k = 46 ∧ 1 ≤ m0.1 42 0 0 + m0.1 42 0 1) ∨ (k = 49) ∨ (k = 47 ∧ 24 * (m0.1 34 0 16 % 32).toNat ≤ j ∧ j < 24 * (m0.1 34 0 16 % 32).toNat + 24 ∧ 1 ≤ m0.1 42 0 0 + m0.1 42 0 1) ∨ (k = 48 ∧ j = (m0.1 34 0 16 % 32).toNat ∧ 1 ≤ m0.1 42 0 0 + m0.1 42 0 1) from Or.inr (Or.inr (Or.inr (Or.inr (Or.inr (Or.inl ((show k = 47 ∧ 24 * (m0.1 34 0 16 % 32).toNat ≤ j ∧ j < 24 * (m0.1 34 0 16 % 32).toNat + 24 ∧ 1 ≤ m0.1 42 0 0 + m0.1 42 0 1 from by omega)))))))))
      have w38 : m37.1 34 0 0 = m21.1 34 0 0 := (hEm37 34 0 0 (show ¬ ((34 = 47 ∧ (24 * q + 2).toNat ≤ 0 ∧ 0 < (24 * q + 2 + 2).toNat)) from by omega)).1
      have w39 : m37.1 34 0 16 = m21.1 34 0 16 := (hEm37 34 0 16 (show ¬ ((34 = 47 ∧ (24 * q + 2).toNat ≤ 16 ∧ 16 < (24 * q + 2 + 2).toNat)) from by omega)).1
      have w40 : m37.1 34 0 15 = m21.1 34 0 15 := (hEm37 34 0 15 (show ¬ ((34 = 47 ∧ (24 * q + 2).toNat ≤ 15 ∧ 15 < (24 * q + 2 + 2).toNat)) from by omega)).1
      have w41 : m37.1 48 0 ((m0.1 34 0 16 % 32).toNat) = m21.1 48 0 ((m0.1 34 0 16 % 32).toNat) := (hEm37 48 0 ((m0.1 34 0 16 % 32).toNat) (show ¬ ((48 = 47 ∧ (24 * q + 2).toNat ≤ ((m0.1 34 0 16 % 32).toNat) ∧ ((m0.1 34 0 16 % 32).toNat) < (24 * q + 2 + 2).toNat)) from by omega)).1
      have w42 : m37.1 49 0 0 = m21.1 49 0 0 := (hEm37 49 0 0 (show ¬ ((49 = 47 ∧ (24 * q + 2).toNat ≤ 0 ∧ 0 < (24 * q + 2 + 2).toNat)) from by omega)).1
      have w43 : m37.1 49 0 1 = m21.1 49 0 1 := (hEm37 49 0 1 (show ¬ ((49 = 47 ∧ (24 * q + 2).toNat ≤ 1 ∧ 1 < (24 * q + 2 + 2).toNat)) from by omega)).1
      have w44 : m37.1 49 0 2 = m21.1 49 0 2 := (hEm37 49 0 2 (show ¬ ((49 = 47 ∧ (24 * q + 2).toNat ≤ 2 ∧ 2 < (24 * q + 2 + 2).toNat)) from by omega)).1
      have w45 : m37.1 49 0 3 = m21.1 49 0 3 := (hEm37 49 0 3 (show ¬ ((49 = 47 ∧ (24 * q + 2).toNat ≤ 3 ∧ 3 < (24 * q + 2 + 2).toNat)) from by omega)).1
      have w46 : m37.1 49 0 4 = m21.1 49 0 4 := (hEm37 49 0 4 (show ¬ ((49 = 47 ∧ (24 * q + 2).toNat ≤ 4 ∧ 4 < (24 * q + 2 + 2).toNat)) from by omega)).1
      have w47 : m37.1 46 0 tG.toNat = m21.1 46 0 tG.toNat := (hEm37 46 0 tG.toNat (show ¬ ((46 = 47 ∧ (24 * q + 2).toNat ≤ tG.toNat ∧ tG.toNat < (24 * q + 2 + 2).toNat)) from by omega)).1
      have w48 : m37.1 46 0 ((1 - tG).toNat) = m21.1 46 0 ((1 - tG).toNat) := (hEm37 46 0 ((1 - tG).toNat) (show ¬ ((46 = 47 ∧ (24 * q + 2).toNat ≤ ((1 - tG).toNat) ∧ ((1 - tG).toNat) < (24 * q + 2 + 2).toNat)) from by omega)).1
      show wW (zK sc) zM242 300 [(0, .inr (.inr (.inl (some (34, 0))))), (2, .inl w), (3, .inl q), (4, .inl t), (5, .inl y), (6, .inl z), (7, .inr (.inl v)), (9, .inl k)] [] _ _ _
      have zs49q := zSL_y (m := m21) (m1 := m37) (s := q.toNat) (q := q) (a := 2) (a' := 4) (y := 2) (v := wi2l (m21.1 49 0 1)) zs33 hEm37 (fun j hj => (show ¬ ((47 = 47 ∧ (24 * q + 2).toNat ≤ j ∧ j < (24 * q + 2 + 2).toNat)) from by omega)) hr36 (by omega) (by omega) (by omega)
      rw [show m21.1 49 0 1 = vG from by omega] at zs49q
      have zs49 := zs49q
      have b50 : 0 ≤ m37.1 49 0 2 ∧ m37.1 49 0 2 ≤ 6 := hGm37.1 49 _ rfl _ _
      refine ww_go 9 (pc' := 311) (L' := [(0, .inr (.inr (.inl (some (34, 0))))), (2, .inl w), (3, .inl q), (4, .inl t), (5, .inl y), (6, .inl z), (7, .inr (.inl v)), (9, .inl k)]) (st' := [.inl 1, .inr (.inl (wi2l (m37.1 49 0 2))), .inl 4, .inl q, .inr (.inr (.inl (some (34, 0))))]) (m' := m37) (o := some ((0 < 1) ∧ (0 < 1 ∧ 0 ≤ (2 : Int) ∧ (2 : Int) < ((5 : Nat) : Int)))) rfl (show (0 < 1) ∧ (0 < 1 ∧ 0 ≤ (2 : Int) ∧ (2 : Int) < ((5 : Nat) : Int)) from by omega) ?_
      refine ww_call (vs := [.inr (.inr (.inl (some (34, 0)))), .inl q, .inl 4, .inr (.inl (wi2l (m37.1 49 0 2))), .inl 1]) (r := []) (p := 0 < 1) rfl rfl rfl rfl (show 0 < 1 from by omega) (zs218 (c := (c + 3)) (by omega) q 4 (wi2l (m37.1 49 0 2)) 1 hGm37 (by omega)) ?_
      rintro _ _ m53 ⟨rfl, rfl, hGm53, hEm53, hr52⟩
      have hFm53 : zfr (fun k i j => (k = 34 ∧ j = 0) ∨ (k = 34 ∧ j = 15 ∧ 1 ≤ m0.1 42 0 0 + m0.1 42 0 1) ∨ (k = 34 ∧ j = 16) ∨ (k = 46 ∧ 1 ≤ m0.1 42 0 0 + m0.1 42 0 1) ∨ (k = 49) ∨ (k = 47 ∧ 24 * (m0.1 34 0 16 % 32).toNat ≤ j ∧ j < 24 * (m0.1 34 0 16 % 32).toNat + 24 ∧ 1 ≤ m0.1 42 0 0 + m0.1 42 0 1) ∨ (k = 48 ∧ j = (m0.1 34 0 16 % 32).toNat ∧ 1 ≤ m0.1 42 0 0 + m0.1 42 0 1)) m0 m53 := zfr_tr hFm37 hEm53 (fun k i j z => (show (k = 34 ∧ j = 0) ∨ (k = 34 ∧ j = 15 ∧ 1 ≤ m0.1 42 0 0 + m0.1 42 0 1) ∨ (k = 34 ∧ j = 16) ∨ (k = 46 ∧ 1 ≤ m0.1 42 0 0 + m0.1 42 0 1) ∨ (k = 49) ∨ (k = 47 ∧ 24 * (m0.1 34 0 16 % 32).toNat ≤ j ∧ j < 24 * (m0.1 34 0 16 % 32).toNat + 24 ∧ 1 ≤ m0.1 42 0 0 + m0.1 42 0 1) ∨ (k = 48 ∧ j = (m0.1 34 0 16 % 32).toNat ∧ 1 ≤ m0.1 42 0 0 + m0.1 42 0 1) from Or.inr (Or.inr (Or.inr (Or.inr (Or.inr (Or.inl ((show k = 47 ∧ 24 * (m0.1 34 0 16 % 32).toNat ≤ j ∧ j < 24 * (m0.1 34 0 16 % 32).toNat + 24 ∧ 1 ≤ m0.1 42 0 0 + m0.1 42 0 1 from by omega)))))))))
      have w54 : m53.1 34 0 0 = m37.1 34 0 0 := (hEm53 34 0 0 (show ¬ ((34 = 47 ∧ (24 * q + 4).toNat ≤ 0 ∧ 0 < (24 * q + 4 + 1).toNat)) from by omega)).1
      have w55 : m53.1 34 0 16 = m37.1 34 0 16 := (hEm53 34 0 16 (show ¬ ((34 = 47 ∧ (24 * q + 4).toNat ≤ 16 ∧ 16 < (24 * q + 4 + 1).toNat)) from by omega)).1
      have w56 : m53.1 34 0 15 = m37.1 34 0 15 := (hEm53 34 0 15 (show ¬ ((34 = 47 ∧ (24 * q + 4).toNat ≤ 15 ∧ 15 < (24 * q + 4 + 1).toNat)) from by omega)).1
      have w57 : m53.1 48 0 ((m0.1 34 0 16 % 32).toNat) = m37.1 48 0 ((m0.1 34 0 16 % 32).toNat) := (hEm53 48 0 ((m0.1 34 0 16 % 32).toNat) (show ¬ ((48 = 47 ∧ (24 * q + 4).toNat ≤ ((m0.1 34 0 16 % 32).toNat) ∧ ((m0.1 34 0 16 % 32).toNat) < (24 * q + 4 + 1).toNat)) from by omega)).1
      have w58 : m53.1 49 0 0 = m37.1 49 0 0 := (hEm53 49 0 0 (show ¬ ((49 = 47 ∧ (24 * q + 4).toNat ≤ 0 ∧ 0 < (24 * q + 4 + 1).toNat)) from by omega)).1
      have w59 : m53.1 49 0 1 = m37.1 49 0 1 := (hEm53 49 0 1 (show ¬ ((49 = 47 ∧ (24 * q + 4).toNat ≤ 1 ∧ 1 < (24 * q + 4 + 1).toNat)) from by omega)).1
      have w60 : m53.1 49 0 2 = m37.1 49 0 2 := (hEm53 49 0 2 (show ¬ ((49 = 47 ∧ (24 * q + 4).toNat ≤ 2 ∧ 2 < (24 * q + 4 + 1).toNat)) from by omega)).1
      have w61 : m53.1 49 0 3 = m37.1 49 0 3 := (hEm53 49 0 3 (show ¬ ((49 = 47 ∧ (24 * q + 4).toNat ≤ 3 ∧ 3 < (24 * q + 4 + 1).toNat)) from by omega)).1
      have w62 : m53.1 49 0 4 = m37.1 49 0 4 := (hEm53 49 0 4 (show ¬ ((49 = 47 ∧ (24 * q + 4).toNat ≤ 4 ∧ 4 < (24 * q + 4 + 1).toNat)) from by omega)).1
      have w63 : m53.1 46 0 tG.toNat = m37.1 46 0 tG.toNat := (hEm53 46 0 tG.toNat (show ¬ ((46 = 47 ∧ (24 * q + 4).toNat ≤ tG.toNat ∧ tG.toNat < (24 * q + 4 + 1).toNat)) from by omega)).1
      have w64 : m53.1 46 0 ((1 - tG).toNat) = m37.1 46 0 ((1 - tG).toNat) := (hEm53 46 0 ((1 - tG).toNat) (show ¬ ((46 = 47 ∧ (24 * q + 4).toNat ≤ ((1 - tG).toNat) ∧ ((1 - tG).toNat) < (24 * q + 4 + 1).toNat)) from by omega)).1
      show wW (zK sc) zM242 314 [(0, .inr (.inr (.inl (some (34, 0))))), (2, .inl w), (3, .inl q), (4, .inl t), (5, .inl y), (6, .inl z), (7, .inr (.inl v)), (9, .inl k)] [] _ _ _
      have zs65q := zSL_y (m := m37) (m1 := m53) (s := q.toNat) (q := q) (a := 4) (a' := 5) (y := 1) (v := wi2l (m37.1 49 0 2)) zs49 hEm53 (fun j hj => (show ¬ ((47 = 47 ∧ (24 * q + 4).toNat ≤ j ∧ j < (24 * q + 4 + 1).toNat)) from by omega)) hr52 (by omega) (by omega) (by omega)
      rw [show m37.1 49 0 2 = aG from by omega] at zs65q
      have zs65 := zs65q
      have b66 : 0 ≤ m53.1 49 0 3 ∧ m53.1 49 0 3 ≤ 1 := hGm53.1 49 _ rfl _ _
      refine ww_go 9 (pc' := 325) (L' := [(0, .inr (.inr (.inl (some (34, 0))))), (2, .inl w), (3, .inl q), (4, .inl t), (5, .inl y), (6, .inl z), (7, .inr (.inl v)), (9, .inl k)]) (st' := [.inl 1, .inr (.inl (wi2l (m53.1 49 0 3))), .inl 5, .inl q, .inr (.inr (.inl (some (34, 0))))]) (m' := m53) (o := some ((0 < 1) ∧ (0 < 1 ∧ 0 ≤ (3 : Int) ∧ (3 : Int) < ((5 : Nat) : Int)))) rfl (show (0 < 1) ∧ (0 < 1 ∧ 0 ≤ (3 : Int) ∧ (3 : Int) < ((5 : Nat) : Int)) from by omega) ?_
      refine ww_call (vs := [.inr (.inr (.inl (some (34, 0)))), .inl q, .inl 5, .inr (.inl (wi2l (m53.1 49 0 3))), .inl 1]) (r := []) (p := 0 < 1) rfl rfl rfl rfl (show 0 < 1 from by omega) (zs218 (c := (c + 3)) (by omega) q 5 (wi2l (m53.1 49 0 3)) 1 hGm53 (by omega)) ?_
      rintro _ _ m69 ⟨rfl, rfl, hGm69, hEm69, hr68⟩
      have hFm69 : zfr (fun k i j => (k = 34 ∧ j = 0) ∨ (k = 34 ∧ j = 15 ∧ 1 ≤ m0.1 42 0 0 + m0.1 42 0 1) ∨ (k = 34 ∧ j = 16) ∨ (k = 46 ∧ 1 ≤ m0.1 42 0 0 + m0.1 42 0 1) ∨ (k = 49) ∨ (k = 47 ∧ 24 * (m0.1 34 0 16 % 32).toNat ≤ j ∧ j < 24 * (m0.1 34 0 16 % 32).toNat + 24 ∧ 1 ≤ m0.1 42 0 0 + m0.1 42 0 1) ∨ (k = 48 ∧ j = (m0.1 34 0 16 % 32).toNat ∧ 1 ≤ m0.1 42 0 0 + m0.1 42 0 1)) m0 m69 := zfr_tr hFm53 hEm69 (fun k i j z => (show (k = 34 ∧ j = 0) ∨ (k = 34 ∧ j = 15 ∧ 1 ≤ m0.1 42 0 0 + m0.1 42 0 1) ∨ (k = 34 ∧ j = 16) ∨ (k = 46 ∧ 1 ≤ m0.1 42 0 0 + m0.1 42 0 1) ∨ (k = 49) ∨ (k = 47 ∧ 24 * (m0.1 34 0 16 % 32).toNat ≤ j ∧ j < 24 * (m0.1 34 0 16 % 32).toNat + 24 ∧ 1 ≤ m0.1 42 0 0 + m0.1 42 0 1) ∨ (k = 48 ∧ j = (m0.1 34 0 16 % 32).toNat ∧ 1 ≤ m0.1 42 0 0 + m0.1 42 0 1) from Or.inr (Or.inr (Or.inr (Or.inr (Or.inr (Or.inl ((show k = 47 ∧ 24 * (m0.1 34 0 16 % 32).toNat ≤ j ∧ j < 24 * (m0.1 34 0 16 % 32).toNat + 24 ∧ 1 ≤ m0.1 42 0 0 + m0.1 42 0 1 from by omega)))))))))
      have w70 : m69.1 34 0 0 = m53.1 34 0 0 := (hEm69 34 0 0 (show ¬ ((34 = 47 ∧ (24 * q + 5).toNat ≤ 0 ∧ 0 < (24 * q + 5 + 1).toNat)) from by omega)).1
      have w71 : m69.1 34 0 16 = m53.1 34 0 16 := (hEm69 34 0 16 (show ¬ ((34 = 47 ∧ (24 * q + 5).toNat ≤ 16 ∧ 16 < (24 * q + 5 + 1).toNat)) from by omega)).1
      have w72 : m69.1 34 0 15 = m53.1 34 0 15 := (hEm69 34 0 15 (show ¬ ((34 = 47 ∧ (24 * q + 5).toNat ≤ 15 ∧ 15 < (24 * q + 5 + 1).toNat)) from by omega)).1
      have w73 : m69.1 48 0 ((m0.1 34 0 16 % 32).toNat) = m53.1 48 0 ((m0.1 34 0 16 % 32).toNat) := (hEm69 48 0 ((m0.1 34 0 16 % 32).toNat) (show ¬ ((48 = 47 ∧ (24 * q + 5).toNat ≤ ((m0.1 34 0 16 % 32).toNat) ∧ ((m0.1 34 0 16 % 32).toNat) < (24 * q + 5 + 1).toNat)) from by omega)).1
      have w74 : m69.1 49 0 0 = m53.1 49 0 0 := (hEm69 49 0 0 (show ¬ ((49 = 47 ∧ (24 * q + 5).toNat ≤ 0 ∧ 0 < (24 * q + 5 + 1).toNat)) from by omega)).1
      have w75 : m69.1 49 0 1 = m53.1 49 0 1 := (hEm69 49 0 1 (show ¬ ((49 = 47 ∧ (24 * q + 5).toNat ≤ 1 ∧ 1 < (24 * q + 5 + 1).toNat)) from by omega)).1
      have w76 : m69.1 49 0 2 = m53.1 49 0 2 := (hEm69 49 0 2 (show ¬ ((49 = 47 ∧ (24 * q + 5).toNat ≤ 2 ∧ 2 < (24 * q + 5 + 1).toNat)) from by omega)).1
      have w77 : m69.1 49 0 3 = m53.1 49 0 3 := (hEm69 49 0 3 (show ¬ ((49 = 47 ∧ (24 * q + 5).toNat ≤ 3 ∧ 3 < (24 * q + 5 + 1).toNat)) from by omega)).1
      have w78 : m69.1 49 0 4 = m53.1 49 0 4 := (hEm69 49 0 4 (show ¬ ((49 = 47 ∧ (24 * q + 5).toNat ≤ 4 ∧ 4 < (24 * q + 5 + 1).toNat)) from by omega)).1
      have w79 : m69.1 46 0 tG.toNat = m53.1 46 0 tG.toNat := (hEm69 46 0 tG.toNat (show ¬ ((46 = 47 ∧ (24 * q + 5).toNat ≤ tG.toNat ∧ tG.toNat < (24 * q + 5 + 1).toNat)) from by omega)).1
      have w80 : m69.1 46 0 ((1 - tG).toNat) = m53.1 46 0 ((1 - tG).toNat) := (hEm69 46 0 ((1 - tG).toNat) (show ¬ ((46 = 47 ∧ (24 * q + 5).toNat ≤ ((1 - tG).toNat) ∧ ((1 - tG).toNat) < (24 * q + 5 + 1).toNat)) from by omega)).1
      show wW (zK sc) zM242 328 [(0, .inr (.inr (.inl (some (34, 0))))), (2, .inl w), (3, .inl q), (4, .inl t), (5, .inl y), (6, .inl z), (7, .inr (.inl v)), (9, .inl k)] [] _ _ _
      have zs81q := zSL_y (m := m53) (m1 := m69) (s := q.toNat) (q := q) (a := 5) (a' := 6) (y := 1) (v := wi2l (m53.1 49 0 3)) zs65 hEm69 (fun j hj => (show ¬ ((47 = 47 ∧ (24 * q + 5).toNat ≤ j ∧ j < (24 * q + 5 + 1).toNat)) from by omega)) hr68 (by omega) (by omega) (by omega)
      rw [show m53.1 49 0 3 = bG from by omega] at zs81q
      have zs81 := zs81q
      have b82 : 0 ≤ m69.1 49 0 4 ∧ m69.1 49 0 4 ≤ 31 := hGm69.1 49 _ rfl _ _
      refine ww_go 9 (pc' := 340) (L' := [(0, .inr (.inr (.inl (some (34, 0))))), (2, .inl w), (3, .inl q), (4, .inl t), (5, .inl y), (6, .inl z), (7, .inr (.inl v)), (9, .inl k)]) (st' := [.inl 1, .inr (.inl (wi2l (m69.1 49 0 4))), .inl 6, .inl q, .inr (.inr (.inl (some (34, 0))))]) (m' := m69) (o := some ((0 < 1) ∧ (0 < 1 ∧ 0 ≤ (4 : Int) ∧ (4 : Int) < ((5 : Nat) : Int)))) rfl (show (0 < 1) ∧ (0 < 1 ∧ 0 ≤ (4 : Int) ∧ (4 : Int) < ((5 : Nat) : Int)) from by omega) ?_
      refine ww_call (vs := [.inr (.inr (.inl (some (34, 0)))), .inl q, .inl 6, .inr (.inl (wi2l (m69.1 49 0 4))), .inl 1]) (r := []) (p := 0 < 1) rfl rfl rfl rfl (show 0 < 1 from by omega) (zs218 (c := (c + 3)) (by omega) q 6 (wi2l (m69.1 49 0 4)) 1 hGm69 (by omega)) ?_
      rintro _ _ m85 ⟨rfl, rfl, hGm85, hEm85, hr84⟩
      have hFm85 : zfr (fun k i j => (k = 34 ∧ j = 0) ∨ (k = 34 ∧ j = 15 ∧ 1 ≤ m0.1 42 0 0 + m0.1 42 0 1) ∨ (k = 34 ∧ j = 16) ∨ (k = 46 ∧ 1 ≤ m0.1 42 0 0 + m0.1 42 0 1) ∨ (k = 49) ∨ (k = 47 ∧ 24 * (m0.1 34 0 16 % 32).toNat ≤ j ∧ j < 24 * (m0.1 34 0 16 % 32).toNat + 24 ∧ 1 ≤ m0.1 42 0 0 + m0.1 42 0 1) ∨ (k = 48 ∧ j = (m0.1 34 0 16 % 32).toNat ∧ 1 ≤ m0.1 42 0 0 + m0.1 42 0 1)) m0 m85 := zfr_tr hFm69 hEm85 (fun k i j z => (show (k = 34 ∧ j = 0) ∨ (k = 34 ∧ j = 15 ∧ 1 ≤ m0.1 42 0 0 + m0.1 42 0 1) ∨ (k = 34 ∧ j = 16) ∨ (k = 46 ∧ 1 ≤ m0.1 42 0 0 + m0.1 42 0 1) ∨ (k = 49) ∨ (k = 47 ∧ 24 * (m0.1 34 0 16 % 32).toNat ≤ j ∧ j < 24 * (m0.1 34 0 16 % 32).toNat + 24 ∧ 1 ≤ m0.1 42 0 0 + m0.1 42 0 1) ∨ (k = 48 ∧ j = (m0.1 34 0 16 % 32).toNat ∧ 1 ≤ m0.1 42 0 0 + m0.1 42 0 1) from Or.inr (Or.inr (Or.inr (Or.inr (Or.inr (Or.inl ((show k = 47 ∧ 24 * (m0.1 34 0 16 % 32).toNat ≤ j ∧ j < 24 * (m0.1 34 0 16 % 32).toNat + 24 ∧ 1 ≤ m0.1 42 0 0 + m0.1 42 0 1 from by omega)))))))))
      have w86 : m85.1 34 0 0 = m69.1 34 0 0 := (hEm85 34 0 0 (show ¬ ((34 = 47 ∧ (24 * q + 6).toNat ≤ 0 ∧ 0 < (24 * q + 6 + 1).toNat)) from by omega)).1
      have w87 : m85.1 34 0 16 = m69.1 34 0 16 := (hEm85 34 0 16 (show ¬ ((34 = 47 ∧ (24 * q + 6).toNat ≤ 16 ∧ 16 < (24 * q + 6 + 1).toNat)) from by omega)).1
      have w88 : m85.1 34 0 15 = m69.1 34 0 15 := (hEm85 34 0 15 (show ¬ ((34 = 47 ∧ (24 * q + 6).toNat ≤ 15 ∧ 15 < (24 * q + 6 + 1).toNat)) from by omega)).1
      have w89 : m85.1 48 0 ((m0.1 34 0 16 % 32).toNat) = m69.1 48 0 ((m0.1 34 0 16 % 32).toNat) := (hEm85 48 0 ((m0.1 34 0 16 % 32).toNat) (show ¬ ((48 = 47 ∧ (24 * q + 6).toNat ≤ ((m0.1 34 0 16 % 32).toNat) ∧ ((m0.1 34 0 16 % 32).toNat) < (24 * q + 6 + 1).toNat)) from by omega)).1
      have w90 : m85.1 49 0 0 = m69.1 49 0 0 := (hEm85 49 0 0 (show ¬ ((49 = 47 ∧ (24 * q + 6).toNat ≤ 0 ∧ 0 < (24 * q + 6 + 1).toNat)) from by omega)).1
      have w91 : m85.1 49 0 1 = m69.1 49 0 1 := (hEm85 49 0 1 (show ¬ ((49 = 47 ∧ (24 * q + 6).toNat ≤ 1 ∧ 1 < (24 * q + 6 + 1).toNat)) from by omega)).1
      have w92 : m85.1 49 0 2 = m69.1 49 0 2 := (hEm85 49 0 2 (show ¬ ((49 = 47 ∧ (24 * q + 6).toNat ≤ 2 ∧ 2 < (24 * q + 6 + 1).toNat)) from by omega)).1
      have w93 : m85.1 49 0 3 = m69.1 49 0 3 := (hEm85 49 0 3 (show ¬ ((49 = 47 ∧ (24 * q + 6).toNat ≤ 3 ∧ 3 < (24 * q + 6 + 1).toNat)) from by omega)).1
      have w94 : m85.1 49 0 4 = m69.1 49 0 4 := (hEm85 49 0 4 (show ¬ ((49 = 47 ∧ (24 * q + 6).toNat ≤ 4 ∧ 4 < (24 * q + 6 + 1).toNat)) from by omega)).1
      have w95 : m85.1 46 0 tG.toNat = m69.1 46 0 tG.toNat := (hEm85 46 0 tG.toNat (show ¬ ((46 = 47 ∧ (24 * q + 6).toNat ≤ tG.toNat ∧ tG.toNat < (24 * q + 6 + 1).toNat)) from by omega)).1
      have w96 : m85.1 46 0 ((1 - tG).toNat) = m69.1 46 0 ((1 - tG).toNat) := (hEm85 46 0 ((1 - tG).toNat) (show ¬ ((46 = 47 ∧ (24 * q + 6).toNat ≤ ((1 - tG).toNat) ∧ ((1 - tG).toNat) < (24 * q + 6 + 1).toNat)) from by omega)).1
      show wW (zK sc) zM242 343 [(0, .inr (.inr (.inl (some (34, 0))))), (2, .inl w), (3, .inl q), (4, .inl t), (5, .inl y), (6, .inl z), (7, .inr (.inl v)), (9, .inl k)] [] _ _ _
      have zs97q := zSL_y (m := m69) (m1 := m85) (s := q.toNat) (q := q) (a := 6) (a' := 7) (y := 1) (v := wi2l (m69.1 49 0 4)) zs81 hEm85 (fun j hj => (show ¬ ((47 = 47 ∧ (24 * q + 6).toNat ≤ j ∧ j < (24 * q + 6 + 1).toNat)) from by omega)) hr84 (by omega) (by omega) (by omega)
      rw [show m69.1 49 0 4 = jG from by omega] at zs97q
      have zs97 := zs97q
      have b98 : 0 ≤ m85.1 44 0 t.toNat ∧ m85.1 44 0 t.toNat ≤ 104 := hGm85.1 44 _ rfl _ _
      refine ww_go 9 (pc' := 356) (L' := [(0, .inr (.inr (.inl (some (34, 0))))), (2, .inl w), (3, .inl q), (4, .inl t), (5, .inl y), (6, .inl z), (7, .inr (.inl v)), (9, .inl k)]) (st' := [.inl 1, .inr (.inl (wi2l (m85.1 44 0 t.toNat))), .inl 7, .inl q, .inr (.inr (.inl (some (34, 0))))]) (m' := m85) (o := some ((0 < 1) ∧ (0 < 1 ∧ 0 ≤ t ∧ t < ((42 : Nat) : Int)))) rfl (show (0 < 1) ∧ (0 < 1 ∧ 0 ≤ t ∧ t < ((42 : Nat) : Int)) from by omega) ?_
      refine ww_call (vs := [.inr (.inr (.inl (some (34, 0)))), .inl q, .inl 7, .inr (.inl (wi2l (m85.1 44 0 t.toNat))), .inl 1]) (r := []) (p := 0 < 1) rfl rfl rfl rfl (show 0 < 1 from by omega) (zs218 (c := (c + 3)) (by omega) q 7 (wi2l (m85.1 44 0 t.toNat)) 1 hGm85 (by omega)) ?_
      rintro _ _ m101 ⟨rfl, rfl, hGm101, hEm101, hr100⟩
      have hFm101 : zfr (fun k i j => (k = 34 ∧ j = 0) ∨ (k = 34 ∧ j = 15 ∧ 1 ≤ m0.1 42 0 0 + m0.1 42 0 1) ∨ (k = 34 ∧ j = 16) ∨ (k = 46 ∧ 1 ≤ m0.1 42 0 0 + m0.1 42 0 1) ∨ (k = 49) ∨ (k = 47 ∧ 24 * (m0.1 34 0 16 % 32).toNat ≤ j ∧ j < 24 * (m0.1 34 0 16 % 32).toNat + 24 ∧ 1 ≤ m0.1 42 0 0 + m0.1 42 0 1) ∨ (k = 48 ∧ j = (m0.1 34 0 16 % 32).toNat ∧ 1 ≤ m0.1 42 0 0 + m0.1 42 0 1)) m0 m101 := zfr_tr hFm85 hEm101 (fun k i j z => (show (k = 34 ∧ j = 0) ∨ (k = 34 ∧ j = 15 ∧ 1 ≤ m0.1 42 0 0 + m0.1 42 0 1) ∨ (k = 34 ∧ j = 16) ∨ (k = 46 ∧ 1 ≤ m0.1 42 0 0 + m0.1 42 0 1) ∨ (k = 49) ∨ (k = 47 ∧ 24 * (m0.1 34 0 16 % 32).toNat ≤ j ∧ j < 24 * (m0.1 34 0 16 % 32).toNat + 24 ∧ 1 ≤ m0.1 42 0 0 + m0.1 42 0 1) ∨ (k = 48 ∧ j = (m0.1 34 0 16 % 32).toNat ∧ 1 ≤ m0.1 42 0 0 + m0.1 42 0 1) from Or.inr (Or.inr (Or.inr (Or.inr (Or.inr (Or.inl ((show k = 47 ∧ 24 * (m0.1 34 0 16 % 32).toNat ≤ j ∧ j < 24 * (m0.1 34 0 16 % 32).toNat + 24 ∧ 1 ≤ m0.1 42 0 0 + m0.1 42 0 1 from by omega)))))))))
      have w102 : m101.1 34 0 0 = m85.1 34 0 0 := (hEm101 34 0 0 (show ¬ ((34 = 47 ∧ (24 * q + 7).toNat ≤ 0 ∧ 0 < (24 * q + 7 + 1).toNat)) from by omega)).1
      have w103 : m101.1 34 0 16 = m85.1 34 0 16 := (hEm101 34 0 16 (show ¬ ((34 = 47 ∧ (24 * q + 7).toNat ≤ 16 ∧ 16 < (24 * q + 7 + 1).toNat)) from by omega)).1
      have w104 : m101.1 34 0 15 = m85.1 34 0 15 := (hEm101 34 0 15 (show ¬ ((34 = 47 ∧ (24 * q + 7).toNat ≤ 15 ∧ 15 < (24 * q + 7 + 1).toNat)) from by omega)).1
      have w105 : m101.1 48 0 ((m0.1 34 0 16 % 32).toNat) = m85.1 48 0 ((m0.1 34 0 16 % 32).toNat) := (hEm101 48 0 ((m0.1 34 0 16 % 32).toNat) (show ¬ ((48 = 47 ∧ (24 * q + 7).toNat ≤ ((m0.1 34 0 16 % 32).toNat) ∧ ((m0.1 34 0 16 % 32).toNat) < (24 * q + 7 + 1).toNat)) from by omega)).1
      have w106 : m101.1 49 0 0 = m85.1 49 0 0 := (hEm101 49 0 0 (show ¬ ((49 = 47 ∧ (24 * q + 7).toNat ≤ 0 ∧ 0 < (24 * q + 7 + 1).toNat)) from by omega)).1
      have w107 : m101.1 49 0 1 = m85.1 49 0 1 := (hEm101 49 0 1 (show ¬ ((49 = 47 ∧ (24 * q + 7).toNat ≤ 1 ∧ 1 < (24 * q + 7 + 1).toNat)) from by omega)).1
      have w108 : m101.1 49 0 2 = m85.1 49 0 2 := (hEm101 49 0 2 (show ¬ ((49 = 47 ∧ (24 * q + 7).toNat ≤ 2 ∧ 2 < (24 * q + 7 + 1).toNat)) from by omega)).1
      have w109 : m101.1 49 0 3 = m85.1 49 0 3 := (hEm101 49 0 3 (show ¬ ((49 = 47 ∧ (24 * q + 7).toNat ≤ 3 ∧ 3 < (24 * q + 7 + 1).toNat)) from by omega)).1
      have w110 : m101.1 49 0 4 = m85.1 49 0 4 := (hEm101 49 0 4 (show ¬ ((49 = 47 ∧ (24 * q + 7).toNat ≤ 4 ∧ 4 < (24 * q + 7 + 1).toNat)) from by omega)).1
      have w111 : m101.1 46 0 tG.toNat = m85.1 46 0 tG.toNat := (hEm101 46 0 tG.toNat (show ¬ ((46 = 47 ∧ (24 * q + 7).toNat ≤ tG.toNat ∧ tG.toNat < (24 * q + 7 + 1).toNat)) from by omega)).1
      have w112 : m101.1 46 0 ((1 - tG).toNat) = m85.1 46 0 ((1 - tG).toNat) := (hEm101 46 0 ((1 - tG).toNat) (show ¬ ((46 = 47 ∧ (24 * q + 7).toNat ≤ ((1 - tG).toNat) ∧ ((1 - tG).toNat) < (24 * q + 7 + 1).toNat)) from by omega)).1
      show wW (zK sc) zM242 359 [(0, .inr (.inr (.inl (some (34, 0))))), (2, .inl w), (3, .inl q), (4, .inl t), (5, .inl y), (6, .inl z), (7, .inr (.inl v)), (9, .inl k)] [] _ _ _
      have zs113q := zSL_y (m := m85) (m1 := m101) (s := q.toNat) (q := q) (a := 7) (a' := 8) (y := 1) (v := wi2l (m85.1 44 0 t.toNat)) zs97 hEm101 (fun j hj => (show ¬ ((47 = 47 ∧ (24 * q + 7).toNat ≤ j ∧ j < (24 * q + 7 + 1).toNat)) from by omega)) hr100 (by omega) (by omega) (by omega)
      rw [show m85.1 44 0 t.toNat = (zKR m0 (3 * fG.toNat + (vG % 3).toNat) aG.toNat).1 from (by rw [(hFm85 44 0 t.toNat (show ¬ ((44 = 34 ∧ t.toNat = 0) ∨ (44 = 34 ∧ t.toNat = 15 ∧ 1 ≤ m0.1 42 0 0 + m0.1 42 0 1) ∨ (44 = 34 ∧ t.toNat = 16) ∨ (44 = 46 ∧ 1 ≤ m0.1 42 0 0 + m0.1 42 0 1) ∨ (44 = 49) ∨ (44 = 47 ∧ 24 * (m0.1 34 0 16 % 32).toNat ≤ t.toNat ∧ t.toNat < 24 * (m0.1 34 0 16 % 32).toNat + 24 ∧ 1 ≤ m0.1 42 0 0 + m0.1 42 0 1) ∨ (44 = 48 ∧ t.toNat = (m0.1 34 0 16 % 32).toNat ∧ 1 ≤ m0.1 42 0 0 + m0.1 42 0 1)) from by omega)).1, ht]; rfl)] at zs113q
      have zs113 := zs113q
      refine ww_go 5 (pc' := 367) (L' := [(0, .inr (.inr (.inl (some (34, 0))))), (2, .inl w), (3, .inl q), (4, .inl t), (5, .inl y), (6, .inl z), (7, .inr (.inl v)), (9, .inl k)]) (st' := [.inl 8, .inr (.inl v), .inl 8, .inl q, .inr (.inr (.inl (some (34, 0))))]) (m' := m101) (o := none) rfl trivial ?_
      refine ww_call (vs := [.inr (.inr (.inl (some (34, 0)))), .inl q, .inl 8, .inr (.inl v), .inl 8]) (r := []) (p := 0 < 1) rfl rfl rfl rfl (show 0 < 1 from by omega) (zs218 (c := (c + 3)) (by omega) q 8 v 8 hGm101 (by omega)) ?_
      rintro _ _ m116 ⟨rfl, rfl, hGm116, hEm116, hr115⟩
      have hFm116 : zfr (fun k i j => (k = 34 ∧ j = 0) ∨ (k = 34 ∧ j = 15 ∧ 1 ≤ m0.1 42 0 0 + m0.1 42 0 1) ∨ (k = 34 ∧ j = 16) ∨ (k = 46 ∧ 1 ≤ m0.1 42 0 0 + m0.1 42 0 1) ∨ (k = 49) ∨ (k = 47 ∧ 24 * (m0.1 34 0 16 % 32).toNat ≤ j ∧ j < 24 * (m0.1 34 0 16 % 32).toNat + 24 ∧ 1 ≤ m0.1 42 0 0 + m0.1 42 0 1) ∨ (k = 48 ∧ j = (m0.1 34 0 16 % 32).toNat ∧ 1 ≤ m0.1 42 0 0 + m0.1 42 0 1)) m0 m116 := zfr_tr hFm101 hEm116 (fun k i j z => (show (k = 34 ∧ j = 0) ∨ (k = 34 ∧ j = 15 ∧ 1 ≤ m0.1 42 0 0 + m0.1 42 0 1) ∨ (k = 34 ∧ j = 16) ∨ (k = 46 ∧ 1 ≤ m0.1 42 0 0 + m0.1 42 0 1) ∨ (k = 49) ∨ (k = 47 ∧ 24 * (m0.1 34 0 16 % 32).toNat ≤ j ∧ j < 24 * (m0.1 34 0 16 % 32).toNat + 24 ∧ 1 ≤ m0.1 42 0 0 + m0.1 42 0 1) ∨ (k = 48 ∧ j = (m0.1 34 0 16 % 32).toNat ∧ 1 ≤ m0.1 42 0 0 + m0.1 42 0 1) from Or.inr (Or.inr (Or.inr (Or.inr (Or.inr (Or.inl ((show k = 47 ∧ 24 * (m0.1 34 0 16 % 32).toNat ≤ j ∧ j < 24 * (m0.1 34 0 16 % 32).toNat + 24 ∧ 1 ≤ m0.1 42 0 0 + m0.1 42 0 1 from by omega)))))))))
      have w117 : m116.1 34 0 0 = m101.1 34 0 0 := (hEm116 34 0 0 (show ¬ ((34 = 47 ∧ (24 * q + 8).toNat ≤ 0 ∧ 0 < (24 * q + 8 + 8).toNat)) from by omega)).1
      have w118 : m116.1 34 0 16 = m101.1 34 0 16 := (hEm116 34 0 16 (show ¬ ((34 = 47 ∧ (24 * q + 8).toNat ≤ 16 ∧ 16 < (24 * q + 8 + 8).toNat)) from by omega)).1
      have w119 : m116.1 34 0 15 = m101.1 34 0 15 := (hEm116 34 0 15 (show ¬ ((34 = 47 ∧ (24 * q + 8).toNat ≤ 15 ∧ 15 < (24 * q + 8 + 8).toNat)) from by omega)).1
      have w120 : m116.1 48 0 ((m0.1 34 0 16 % 32).toNat) = m101.1 48 0 ((m0.1 34 0 16 % 32).toNat) := (hEm116 48 0 ((m0.1 34 0 16 % 32).toNat) (show ¬ ((48 = 47 ∧ (24 * q + 8).toNat ≤ ((m0.1 34 0 16 % 32).toNat) ∧ ((m0.1 34 0 16 % 32).toNat) < (24 * q + 8 + 8).toNat)) from by omega)).1
      have w121 : m116.1 49 0 0 = m101.1 49 0 0 := (hEm116 49 0 0 (show ¬ ((49 = 47 ∧ (24 * q + 8).toNat ≤ 0 ∧ 0 < (24 * q + 8 + 8).toNat)) from by omega)).1
      have w122 : m116.1 49 0 1 = m101.1 49 0 1 := (hEm116 49 0 1 (show ¬ ((49 = 47 ∧ (24 * q + 8).toNat ≤ 1 ∧ 1 < (24 * q + 8 + 8).toNat)) from by omega)).1
      have w123 : m116.1 49 0 2 = m101.1 49 0 2 := (hEm116 49 0 2 (show ¬ ((49 = 47 ∧ (24 * q + 8).toNat ≤ 2 ∧ 2 < (24 * q + 8 + 8).toNat)) from by omega)).1
      have w124 : m116.1 49 0 3 = m101.1 49 0 3 := (hEm116 49 0 3 (show ¬ ((49 = 47 ∧ (24 * q + 8).toNat ≤ 3 ∧ 3 < (24 * q + 8 + 8).toNat)) from by omega)).1
      have w125 : m116.1 49 0 4 = m101.1 49 0 4 := (hEm116 49 0 4 (show ¬ ((49 = 47 ∧ (24 * q + 8).toNat ≤ 4 ∧ 4 < (24 * q + 8 + 8).toNat)) from by omega)).1
      have w126 : m116.1 46 0 tG.toNat = m101.1 46 0 tG.toNat := (hEm116 46 0 tG.toNat (show ¬ ((46 = 47 ∧ (24 * q + 8).toNat ≤ tG.toNat ∧ tG.toNat < (24 * q + 8 + 8).toNat)) from by omega)).1
      have w127 : m116.1 46 0 ((1 - tG).toNat) = m101.1 46 0 ((1 - tG).toNat) := (hEm116 46 0 ((1 - tG).toNat) (show ¬ ((46 = 47 ∧ (24 * q + 8).toNat ≤ ((1 - tG).toNat) ∧ ((1 - tG).toNat) < (24 * q + 8 + 8).toNat)) from by omega)).1
      show wW (zK sc) zM242 370 [(0, .inr (.inr (.inl (some (34, 0))))), (2, .inl w), (3, .inl q), (4, .inl t), (5, .inl y), (6, .inl z), (7, .inr (.inl v)), (9, .inl k)] [] _ _ _
      have zv9 : v = zSu m0 (3 * fG.toNat + (vG % 3).toNat) vG aG bG jG := by rw [hv, hz, show k = y from by omega, hy]; rfl
      have zs128q := zSL_y (m := m101) (m1 := m116) (s := q.toNat) (q := q) (a := 8) (a' := 16) (y := 8) (v := v) zs113 hEm116 (fun j hj => (show ¬ ((47 = 47 ∧ (24 * q + 8).toNat ≤ j ∧ j < (24 * q + 8 + 8).toNat)) from by omega)) hr115 (by omega) (by omega) (by omega)
      rw [show v = zSu m0 (3 * fG.toNat + (vG % 3).toNat) vG aG bG jG from zv9] at zs128q
      have zs128 : zSL m116 q.toNat 16 (zPL (m0.1 34 0 14) fG vG aG bG jG (zKR m0 (3 * fG.toNat + (vG % 3).toNat) aG.toNat).1 (zSu m0 (3 * fG.toNat + (vG % 3).toNat) vG aG bG jG)) := zs128q
      refine ww_go 5 (pc' := 376) (L' := [(0, .inr (.inr (.inl (some (34, 0))))), (2, .inl w), (3, .inl q), (4, .inl t), (5, .inl y), (6, .inl z), (7, .inr (.inl v)), (9, .inl k)]) (st' := [.inl q, .inr (.inr (.inl (some (34, 0)))), .inl 16, .inl q, .inr (.inr (.inl (some (34, 0))))]) (m' := m116) (o := none) rfl trivial ?_
      refine ww_call (vs := [.inr (.inr (.inl (some (34, 0)))), .inl q]) (r := [.inl 16, .inl q, .inr (.inr (.inl (some (34, 0))))]) (p := 0 < 1) rfl rfl rfl rfl (show 0 < 1 from by omega) (zs202 (c := (c + 3)) (by omega) q hGm116 (by omega)) ?_
      rintro _ _ _ ⟨r129, rfl, rfl, rfl, hr130⟩
      show wW (zK sc) zM242 379 [(0, .inr (.inr (.inl (some (34, 0))))), (2, .inl w), (3, .inl q), (4, .inl t), (5, .inl y), (6, .inl z), (7, .inr (.inl v)), (9, .inl k)] [.inr (.inl r129), .inl 16, .inl q, .inr (.inr (.inl (some (34, 0))))] _ _ _
      refine ww_go 1 (pc' := 381) (L' := [(0, .inr (.inr (.inl (some (34, 0))))), (2, .inl w), (3, .inl q), (4, .inl t), (5, .inl y), (6, .inl z), (7, .inr (.inl v)), (9, .inl k)]) (st' := [.inl 8, .inr (.inl r129), .inl 16, .inl q, .inr (.inr (.inl (some (34, 0))))]) (m' := m116) (o := none) rfl trivial ?_
      refine ww_call (vs := [.inr (.inr (.inl (some (34, 0)))), .inl q, .inl 16, .inr (.inl r129), .inl 8]) (r := []) (p := 0 < 1) rfl rfl rfl rfl (show 0 < 1 from by omega) (zs218 (c := (c + 3)) (by omega) q 16 r129 8 hGm116 (by omega)) ?_
      rintro _ _ m133 ⟨rfl, rfl, hGm133, hEm133, hr132⟩
      have hFm133 : zfr (fun k i j => (k = 34 ∧ j = 0) ∨ (k = 34 ∧ j = 15 ∧ 1 ≤ m0.1 42 0 0 + m0.1 42 0 1) ∨ (k = 34 ∧ j = 16) ∨ (k = 46 ∧ 1 ≤ m0.1 42 0 0 + m0.1 42 0 1) ∨ (k = 49) ∨ (k = 47 ∧ 24 * (m0.1 34 0 16 % 32).toNat ≤ j ∧ j < 24 * (m0.1 34 0 16 % 32).toNat + 24 ∧ 1 ≤ m0.1 42 0 0 + m0.1 42 0 1) ∨ (k = 48 ∧ j = (m0.1 34 0 16 % 32).toNat ∧ 1 ≤ m0.1 42 0 0 + m0.1 42 0 1)) m0 m133 := zfr_tr hFm116 hEm133 (fun k i j z => (show (k = 34 ∧ j = 0) ∨ (k = 34 ∧ j = 15 ∧ 1 ≤ m0.1 42 0 0 + m0.1 42 0 1) ∨ (k = 34 ∧ j = 16) ∨ (k = 46 ∧ 1 ≤ m0.1 42 0 0 + m0.1 42 0 1) ∨ (k = 49) ∨ (k = 47 ∧ 24 * (m0.1 34 0 16 % 32).toNat ≤ j ∧ j < 24 * (m0.1 34 0 16 % 32).toNat + 24 ∧ 1 ≤ m0.1 42 0 0 + m0.1 42 0 1) ∨ (k = 48 ∧ j = (m0.1 34 0 16 % 32).toNat ∧ 1 ≤ m0.1 42 0 0 + m0.1 42 0 1) from Or.inr (Or.inr (Or.inr (Or.inr (Or.inr (Or.inl ((show k = 47 ∧ 24 * (m0.1 34 0 16 % 32).toNat ≤ j ∧ j < 24 * (m0.1 34 0 16 % 32).toNat + 24 ∧ 1 ≤ m0.1 42 0 0 + m0.1 42 0 1 from by omega)))))))))
      have w134 : m133.1 34 0 0 = m116.1 34 0 0 := (hEm133 34 0 0 (show ¬ ((34 = 47 ∧ (24 * q + 16).toNat ≤ 0 ∧ 0 < (24 * q + 16 + 8).toNat)) from by omega)).1
      have w135 : m133.1 34 0 16 = m116.1 34 0 16 := (hEm133 34 0 16 (show ¬ ((34 = 47 ∧ (24 * q + 16).toNat ≤ 16 ∧ 16 < (24 * q + 16 + 8).toNat)) from by omega)).1
      have w136 : m133.1 34 0 15 = m116.1 34 0 15 := (hEm133 34 0 15 (show ¬ ((34 = 47 ∧ (24 * q + 16).toNat ≤ 15 ∧ 15 < (24 * q + 16 + 8).toNat)) from by omega)).1
      have w137 : m133.1 48 0 ((m0.1 34 0 16 % 32).toNat) = m116.1 48 0 ((m0.1 34 0 16 % 32).toNat) := (hEm133 48 0 ((m0.1 34 0 16 % 32).toNat) (show ¬ ((48 = 47 ∧ (24 * q + 16).toNat ≤ ((m0.1 34 0 16 % 32).toNat) ∧ ((m0.1 34 0 16 % 32).toNat) < (24 * q + 16 + 8).toNat)) from by omega)).1
      have w138 : m133.1 49 0 0 = m116.1 49 0 0 := (hEm133 49 0 0 (show ¬ ((49 = 47 ∧ (24 * q + 16).toNat ≤ 0 ∧ 0 < (24 * q + 16 + 8).toNat)) from by omega)).1
      have w139 : m133.1 49 0 1 = m116.1 49 0 1 := (hEm133 49 0 1 (show ¬ ((49 = 47 ∧ (24 * q + 16).toNat ≤ 1 ∧ 1 < (24 * q + 16 + 8).toNat)) from by omega)).1
      have w140 : m133.1 49 0 2 = m116.1 49 0 2 := (hEm133 49 0 2 (show ¬ ((49 = 47 ∧ (24 * q + 16).toNat ≤ 2 ∧ 2 < (24 * q + 16 + 8).toNat)) from by omega)).1
      have w141 : m133.1 49 0 3 = m116.1 49 0 3 := (hEm133 49 0 3 (show ¬ ((49 = 47 ∧ (24 * q + 16).toNat ≤ 3 ∧ 3 < (24 * q + 16 + 8).toNat)) from by omega)).1
      have w142 : m133.1 49 0 4 = m116.1 49 0 4 := (hEm133 49 0 4 (show ¬ ((49 = 47 ∧ (24 * q + 16).toNat ≤ 4 ∧ 4 < (24 * q + 16 + 8).toNat)) from by omega)).1
      have w143 : m133.1 46 0 tG.toNat = m116.1 46 0 tG.toNat := (hEm133 46 0 tG.toNat (show ¬ ((46 = 47 ∧ (24 * q + 16).toNat ≤ tG.toNat ∧ tG.toNat < (24 * q + 16 + 8).toNat)) from by omega)).1
      have w144 : m133.1 46 0 ((1 - tG).toNat) = m116.1 46 0 ((1 - tG).toNat) := (hEm133 46 0 ((1 - tG).toNat) (show ¬ ((46 = 47 ∧ (24 * q + 16).toNat ≤ ((1 - tG).toNat) ∧ ((1 - tG).toNat) < (24 * q + 16 + 8).toNat)) from by omega)).1
      show wW (zK sc) zM242 384 [(0, .inr (.inr (.inl (some (34, 0))))), (2, .inl w), (3, .inl q), (4, .inl t), (5, .inl y), (6, .inl z), (7, .inr (.inl v)), (9, .inl k)] [] _ _ _
      have zs145q := zSL_y (m := m116) (m1 := m133) (s := q.toNat) (q := q) (a := 16) (a' := 24) (y := 8) (v := r129) zs128 hEm133 (fun j hj => (show ¬ ((47 = 47 ∧ (24 * q + 16).toNat ≤ j ∧ j < (24 * q + 16 + 8).toNat)) from by omega)) hr132 (by omega) (by omega) (by omega)
      rw [show r129 = zhh (fun k => (zPL (m0.1 34 0 14) fG vG aG bG jG (zKR m0 (3 * fG.toNat + (vG % 3).toNat) aG.toNat).1 (zSu m0 (3 * fG.toNat + (vG % 3).toNat) vG aG bG jG)).getD k 0) 16 from (hr130).trans (zhh_c fun k hk => zs128.2 k (by rw [zPL_len]; exact hk))] at zs145q
      have zs145 : zSL m133 q.toNat 24 (zPK (m0.1 34 0 14) fG vG aG bG jG (zKR m0 (3 * fG.toNat + (vG % 3).toNat) aG.toNat).1 (zSu m0 (3 * fG.toNat + (vG % 3).toNat) vG aG bG jG)) := zs145q
      refine ww_go 4 (pc' := 390) (L' := [(0, .inr (.inr (.inl (some (34, 0))))), (2, .inl w), (3, .inl q), (4, .inl t), (5, .inl y), (6, .inl z), (7, .inr (.inl v)), (9, .inl k)]) (st' := [.inl w, .inl q, .inr (.inr (.inl (some (48, 0))))]) (m' := m133) (o := some ((0 < 1))) rfl (show (0 < 1) from by omega) ?_
      refine ww_if (t := 397) rfl rfl (by omega) (fun (h146 : w ≠ 0) => ?_) (fun (h146 : ¬ (w ≠ 0)) => ?_)
      · show wW (zK sc) zM242 397 [(0, .inr (.inr (.inl (some (34, 0))))), (2, .inl w), (3, .inl q), (4, .inl t), (5, .inl y), (6, .inl z), (7, .inr (.inl v)), (9, .inl k)] [.inl q, .inr (.inr (.inl (some (48, 0))))] _ _ _
        omega
      · show wW (zK sc) zM242 393 [(0, .inr (.inr (.inl (some (34, 0))))), (2, .inl w), (3, .inl q), (4, .inl t), (5, .inl y), (6, .inl z), (7, .inr (.inl v)), (9, .inl k)] [.inl q, .inr (.inr (.inl (some (48, 0))))] _ _ _
        refine ww_go 3 (pc' := 399) (L' := [(0, .inr (.inr (.inl (some (34, 0))))), (2, .inl w), (3, .inl q), (4, .inl t), (5, .inl y), (6, .inl z), (7, .inr (.inl v)), (9, .inl k)]) (st' := []) (m' := wuI m133 48 0 q.toNat 1) (o := some ((0 < 1 ∧ 0 ≤ q ∧ q < ((32 : Nat) : Int) ∧ 0 ≤ (1 : Int) ∧ (1 : Int) ≤ 1))) rfl (show (0 < 1 ∧ 0 ≤ q ∧ q < ((32 : Nat) : Int) ∧ 0 ≤ (1 : Int) ∧ (1 : Int) ≤ 1) from by omega) ?_
        obtain ⟨m147, hm147⟩ : ∃ zq9 : wm, zq9 = wuI m133 48 0 q.toNat 1 := ⟨_, rfl⟩
        rw [← hm147]
        have hGm147 : zB (c + 3) m147 := by rw [hm147]; exact zB_wI rfl (show 0 ≤ (1 : Int) ∧ (1 : Int) ≤ 1 from by omega) hGm133
        have hFm147 : zfr (fun k i j => (k = 34 ∧ j = 0) ∨ (k = 34 ∧ j = 15 ∧ 1 ≤ m0.1 42 0 0 + m0.1 42 0 1) ∨ (k = 34 ∧ j = 16) ∨ (k = 46 ∧ 1 ≤ m0.1 42 0 0 + m0.1 42 0 1) ∨ (k = 49) ∨ (k = 47 ∧ 24 * (m0.1 34 0 16 % 32).toNat ≤ j ∧ j < 24 * (m0.1 34 0 16 % 32).toNat + 24 ∧ 1 ≤ m0.1 42 0 0 + m0.1 42 0 1) ∨ (k = 48 ∧ j = (m0.1 34 0 16 % 32).toNat ∧ 1 ≤ m0.1 42 0 0 + m0.1 42 0 1)) m0 m147 := by rw [hm147]; exact zfr_wI hFm133 (show (48 = 34 ∧ q.toNat = 0) ∨ (48 = 34 ∧ q.toNat = 15 ∧ 1 ≤ m0.1 42 0 0 + m0.1 42 0 1) ∨ (48 = 34 ∧ q.toNat = 16) ∨ (48 = 46 ∧ 1 ≤ m0.1 42 0 0 + m0.1 42 0 1) ∨ (48 = 49) ∨ (48 = 47 ∧ 24 * (m0.1 34 0 16 % 32).toNat ≤ q.toNat ∧ q.toNat < 24 * (m0.1 34 0 16 % 32).toNat + 24 ∧ 1 ≤ m0.1 42 0 0 + m0.1 42 0 1) ∨ (48 = 48 ∧ q.toNat = (m0.1 34 0 16 % 32).toNat ∧ 1 ≤ m0.1 42 0 0 + m0.1 42 0 1) from Or.inr (Or.inr (Or.inr (Or.inr (Or.inr (Or.inr ((show (48 = 48 ∧ q.toNat = (m0.1 34 0 16 % 32).toNat ∧ 1 ≤ m0.1 42 0 0 + m0.1 42 0 1) from by omega))))))))
        have s148 : m147.1 48 0 q.toNat = (1 : Int) := by rw [hm147]; exact wuI_self
        have w149 : m147.1 34 0 0 = m133.1 34 0 0 := by rw [hm147]; rfl
        have w150 : m147.1 34 0 16 = m133.1 34 0 16 := by rw [hm147]; rfl
        have w151 : m147.1 34 0 15 = m133.1 34 0 15 := by rw [hm147]; rfl
        have w152 : m147.1 49 0 0 = m133.1 49 0 0 := by rw [hm147]; rfl
        have w153 : m147.1 49 0 1 = m133.1 49 0 1 := by rw [hm147]; rfl
        have w154 : m147.1 49 0 2 = m133.1 49 0 2 := by rw [hm147]; rfl
        have w155 : m147.1 49 0 3 = m133.1 49 0 3 := by rw [hm147]; rfl
        have w156 : m147.1 49 0 4 = m133.1 49 0 4 := by rw [hm147]; rfl
        have w157 : m147.1 46 0 tG.toNat = m133.1 46 0 tG.toNat := by rw [hm147]; rfl
        have w158 : m147.1 46 0 ((1 - tG).toNat) = m133.1 46 0 ((1 - tG).toNat) := by rw [hm147]; rfl
        refine ww_go 1 (pc' := 400) (L' := [(0, .inr (.inr (.inl (some (34, 0))))), (2, .inl w), (3, .inl q), (4, .inl t), (5, .inl y), (6, .inl z), (7, .inr (.inl v)), (9, .inl k)]) (st' := [.inl q]) (m' := m147) (o := none) rfl trivial ?_
        have zf9 : m147.1 48 0 (m0.1 34 0 16 % 32).toNat = 1 := by rw [show (m0.1 34 0 16 % 32).toNat = q.toNat from by omega]; omega
        have zL9 : zSL m147 (m0.1 34 0 16 % 32).toNat 24 (zPK (m0.1 34 0 14) fG vG aG bG jG (zKR m0 (3 * fG.toNat + (vG % 3).toNat) aG.toNat).1 (zSu m0 (3 * fG.toNat + (vG % 3).toNat) vG aG bG jG)) := by rw [hm147, show (m0.1 34 0 16 % 32).toNat = q.toNat from by omega]; exact zs145
        have zZ9 : zSz m0 m147 tG gG fG vG pG aG bG jG := ⟨hz0.1, hz0.2.1, hz0.2.2.1, hz0.2.2.2.1, by omega, by omega, by omega⟩
        exact ww_rI rfl rfl ⟨_, rfl, rfl, zB_mono hGm147 (by omega), hFm147, Or.inr ⟨by omega, by omega, by omega, by omega, by omega, _, _, _, _, _, _, _, _, zZ9, zL9⟩⟩
    · show wW (zK sc) zM242 219 [(0, .inr (.inr (.inl (some (34, 0))))), (2, .inl w), (3, .inl q), (4, .inl t), (5, .inl y), (6, .inl z), (7, .inr (.inl v)), (9, .inl k)] [] _ _ _
      have t159 := wshr_rg z k
      have t160 := wand_rg (wshr z k) 1
      have t161 := wand_m1 (wshr z k)
      refine ww_go 6 (pc' := 227) (L' := [(0, .inr (.inr (.inl (some (34, 0))))), (2, .inl w), (3, .inl q), (4, .inl t), (5, .inl y), (6, .inl z), (7, .inr (.inl v)), (9, .inl k)]) (st' := [.inl 1, .inl (wand (wshr z k) 1)]) (m' := m) (o := none) rfl trivial ?_
      refine ww_ic (t := 250) rfl rfl (by omega) (fun (h162 : wand (wshr z k) 1 ≠ 1) => ?_) (fun (h162 : ¬ (wand (wshr z k) 1 ≠ 1)) => ?_)
      · show wW (zK sc) zM242 250 [(0, .inr (.inr (.inl (some (34, 0))))), (2, .inl w), (3, .inl q), (4, .inl t), (5, .inl y), (6, .inl z), (7, .inr (.inl v)), (9, .inl k)] [] _ _ _
        refine ww_go 4 (pc' := 212) (L' := [(9, .inl (k + 1)), (7, .inr (.inl v)), (0, .inr (.inr (.inl (some (34, 0))))), (2, .inl w), (3, .inl q), (4, .inl t), (5, .inl y), (6, .inl z)]) (st' := []) (m' := m) (o := none) rfl trivial ?_
        refine ww_sub (L := [(0, .inr (.inr (.inl (some (34, 0))))), (2, .inl w), (3, .inl q), (4, .inl t), (5, .inl y), (6, .inl z), (7, .inr (.inl v)), (9, .inl (k + 1))]) ⟨rfl, rfl, rfl, rfl, rfl, rfl, rfl, rfl, trivial⟩ rfl rfl ?_
        exact (ih _ (by omega)) w q t y z v (k + 1) tG gG fG vG pG aG bG jG m rfl (zB_mono hGm (by omega)) hFm (by omega) (by omega) (by exact hz0) (by exact hf) (by exact ht) (by exact hy) (by exact hz) (by exact zsm_s (by omega) hv (fun z => absurd z (by omega)) (fun _ => rfl))
      · show wW (zK sc) zM242 230 [(0, .inr (.inr (.inl (some (34, 0))))), (2, .inl w), (3, .inl q), (4, .inl t), (5, .inl y), (6, .inl z), (7, .inr (.inl v)), (9, .inl k)] [] _ _ _
        have b163 : 0 ≤ m.1 49 0 3 ∧ m.1 49 0 3 ≤ 1 := hGm.1 49 _ rfl _ _
        refine ww_go 8 (pc' := 243) (L' := [(0, .inr (.inr (.inl (some (34, 0))))), (2, .inl w), (3, .inl q), (4, .inl t), (5, .inl y), (6, .inl z), (7, .inr (.inl v)), (9, .inl k)]) (st' := [.inl k, .inl (m.1 49 0 3), .inl t, .inr (.inr (.inl (some (34, 0)))), .inr (.inl v)]) (m' := m) (o := some ((0 < 1) ∧ (0 < 1 ∧ 0 ≤ (3 : Int) ∧ (3 : Int) < ((5 : Nat) : Int)))) rfl (show (0 < 1) ∧ (0 < 1 ∧ 0 ≤ (3 : Int) ∧ (3 : Int) < ((5 : Nat) : Int)) from by omega) ?_
        refine ww_call (vs := [.inr (.inr (.inl (some (34, 0)))), .inl t, .inl (m.1 49 0 3), .inl k]) (r := [.inr (.inl v)]) (p := 0 < 1) rfl rfl rfl rfl (show 0 < 1 from by omega) (zs228 (c := (c + 3)) (by omega) t (m.1 49 0 3) k hGm (by omega)) ?_
        rintro _ _ _ ⟨r164, rfl, rfl, rfl, hr165⟩
        show wW (zK sc) zM242 246 [(0, .inr (.inr (.inl (some (34, 0))))), (2, .inl w), (3, .inl q), (4, .inl t), (5, .inl y), (6, .inl z), (7, .inr (.inl v)), (9, .inl k)] [.inr (.inl r164), .inr (.inl v)] _ _ _
        refine ww_go 5 (pc' := 212) (L' := [(9, .inl (k + 1)), (7, .inr (.inl (v ^^^ r164))), (0, .inr (.inr (.inl (some (34, 0))))), (2, .inl w), (3, .inl q), (4, .inl t), (5, .inl y), (6, .inl z)]) (st' := []) (m' := m) (o := none) rfl trivial ?_
        refine ww_sub (L := [(0, .inr (.inr (.inl (some (34, 0))))), (2, .inl w), (3, .inl q), (4, .inl t), (5, .inl y), (6, .inl z), (7, .inr (.inl (v ^^^ r164))), (9, .inl (k + 1))]) ⟨rfl, rfl, rfl, rfl, rfl, rfl, rfl, rfl, trivial⟩ rfl rfl ?_
        exact (ih _ (by omega)) w q t y z (v ^^^ r164) (k + 1) tG gG fG vG pG aG bG jG m rfl (zB_mono hGm (by omega)) hFm (by omega) (by omega) (by exact hz0) (by exact hf) (by exact ht) (by exact hy) (by exact hz) (by exact zsm_s (by omega) hv (fun _ => (by rw [hr165, show m.1 49 0 3 = bG from hf3, show zKI m t.toNat = zKR m0 (3 * fG.toNat + (vG % 3).toNat) aG.toNat from (by rw [ht]; exact zKI_fr hFm (show ¬ ((44 = 34 ∧ (7 * (3 * fG.toNat + (vG % 3).toNat) + aG.toNat) = 0) ∨ (44 = 34 ∧ (7 * (3 * fG.toNat + (vG % 3).toNat) + aG.toNat) = 15 ∧ 1 ≤ m0.1 42 0 0 + m0.1 42 0 1) ∨ (44 = 34 ∧ (7 * (3 * fG.toNat + (vG % 3).toNat) + aG.toNat) = 16) ∨ (44 = 46 ∧ 1 ≤ m0.1 42 0 0 + m0.1 42 0 1) ∨ (44 = 49) ∨ (44 = 47 ∧ 24 * (m0.1 34 0 16 % 32).toNat ≤ (7 * (3 * fG.toNat + (vG % 3).toNat) + aG.toNat) ∧ (7 * (3 * fG.toNat + (vG % 3).toNat) + aG.toNat) < 24 * (m0.1 34 0 16 % 32).toNat + 24 ∧ 1 ≤ m0.1 42 0 0 + m0.1 42 0 1) ∨ (44 = 48 ∧ (7 * (3 * fG.toNat + (vG % 3).toNat) + aG.toNat) = (m0.1 34 0 16 % 32).toNat ∧ 1 ≤ m0.1 42 0 0 + m0.1 42 0 1)) from by omega) (fun k _ => (show ¬ ((45 = 34 ∧ (104 * (7 * (3 * fG.toNat + (vG % 3).toNat) + aG.toNat) + k) = 0) ∨ (45 = 34 ∧ (104 * (7 * (3 * fG.toNat + (vG % 3).toNat) + aG.toNat) + k) = 15 ∧ 1 ≤ m0.1 42 0 0 + m0.1 42 0 1) ∨ (45 = 34 ∧ (104 * (7 * (3 * fG.toNat + (vG % 3).toNat) + aG.toNat) + k) = 16) ∨ (45 = 46 ∧ 1 ≤ m0.1 42 0 0 + m0.1 42 0 1) ∨ (45 = 49) ∨ (45 = 47 ∧ 24 * (m0.1 34 0 16 % 32).toNat ≤ (104 * (7 * (3 * fG.toNat + (vG % 3).toNat) + aG.toNat) + k) ∧ (104 * (7 * (3 * fG.toNat + (vG % 3).toNat) + aG.toNat) + k) < 24 * (m0.1 34 0 16 % 32).toNat + 24 ∧ 1 ≤ m0.1 42 0 0 + m0.1 42 0 1) ∨ (45 = 48 ∧ (104 * (7 * (3 * fG.toNat + (vG % 3).toNat) + aG.toNat) + k) = (m0.1 34 0 16 % 32).toNat ∧ 1 ≤ m0.1 42 0 0 + m0.1 42 0 1)) from by omega)) (show m0.1 44 0 (7 * (3 * fG.toNat + (vG % 3).toNat) + aG.toNat) ≤ (104 : Int) from (hG.1 44 _ rfl 0 (7 * (3 * fG.toNat + (vG % 3).toNat) + aG.toNat)).2))])) (fun z => absurd (by omega) z))
set_option maxRecDepth 8000 in
theorem zs242_l128 {sc : xSc} {n : Nat × Nat} {m0 : wm} {c : Int} (hc : 0 ≤ c ∧ c ≤ 900000)  (hG : zB c m0) (hr9 : zRC m0) : ∀ (d : Nat), ∀ (w : Int) (q : Int) (tG : Int) (gG : Int) (fG : Int) (vG : Int) (pG : Int) (aG : Int) (bG : Int) (jG : Int) (m : wm), 0 = d → zB (c + 3) m → zfr (fun k i j => (k = 34 ∧ j = 0) ∨ (k = 34 ∧ j = 15 ∧ 1 ≤ m0.1 42 0 0 + m0.1 42 0 1) ∨ (k = 34 ∧ j = 16) ∨ (k = 46 ∧ 1 ≤ m0.1 42 0 0 + m0.1 42 0 1) ∨ (k = 49) ∨ (k = 47 ∧ 24 * (m0.1 34 0 16 % 32).toNat ≤ j ∧ j < 24 * (m0.1 34 0 16 % 32).toNat + 24 ∧ 1 ≤ m0.1 42 0 0 + m0.1 42 0 1) ∨ (k = 48 ∧ j = (m0.1 34 0 16 % 32).toNat ∧ 1 ≤ m0.1 42 0 0 + m0.1 42 0 1)) m0 m → (w = 0 ∧ 0 ≤ q ∧ q ≤ 31 ∧ 1 ≤ m0.1 42 0 0 + m0.1 42 0 1) → (m.1 34 0 0 = 0 ∧ q = m0.1 34 0 16 % 32 ∧ m.1 34 0 16 = m0.1 34 0 16 + 1) → (zSz m0 m tG gG fG vG pG aG bG jG) → (zFd m fG vG aG bG jG) →  wW (zK sc) zM242 128 [(0, .inr (.inr (.inl (some (34, 0))))), (2, .inl w), (3, .inl q)] [] n m (wr (fun vv n1 m1 => ∃ r : Int, vv = some (.inl r) ∧ n = n1 ∧ zB (c + 3) m1 ∧ zfr (fun k i j => (k = 34 ∧ j = 0) ∨ (k = 34 ∧ j = 15 ∧ 1 ≤ m0.1 42 0 0 + m0.1 42 0 1) ∨ (k = 34 ∧ j = 16) ∨ (k = 46 ∧ 1 ≤ m0.1 42 0 0 + m0.1 42 0 1) ∨ (k = 49) ∨ (k = 47 ∧ 24 * (m0.1 34 0 16 % 32).toNat ≤ j ∧ j < 24 * (m0.1 34 0 16 % 32).toNat + 24 ∧ 1 ≤ m0.1 42 0 0 + m0.1 42 0 1) ∨ (k = 48 ∧ j = (m0.1 34 0 16 % 32).toNat ∧ 1 ≤ m0.1 42 0 0 + m0.1 42 0 1)) m0 m1 ∧ ((m1.1 34 0 0 = 1 ∧ m0.1 42 0 0 + m0.1 42 0 1 = 0 ∧ m1.1 34 0 16 = m0.1 34 0 16 ∧ m1.1 48 0 (m0.1 34 0 16 % 32).toNat = m0.1 48 0 (m0.1 34 0 16 % 32).toNat ∧ m1.1 34 0 15 = m0.1 34 0 15 ∧ m1.1 46 0 = m0.1 46 0) ∨ (m1.1 34 0 0 = 0 ∧ 1 ≤ m0.1 42 0 0 + m0.1 42 0 1 ∧ r = m0.1 34 0 16 % 32 ∧ m1.1 34 0 16 = m0.1 34 0 16 + 1 ∧ m1.1 48 0 (m0.1 34 0 16 % 32).toNat = 1 ∧ zSnd m0 m1 (m0.1 34 0 16 % 32).toNat)))) := by
  intro d
  induction d using Nat.strongRecOn with
  | ind d ih =>
    intro w q tG gG fG vG pG aG bG jG m hd hGm hFm hi hm hz0 hf
    have b0 : 0 ≤ m0.1 42 0 0 ∧ m0.1 42 0 0 ≤ 1000 := hG.1 42 _ rfl _ _
    have b1 : 0 ≤ m0.1 42 0 1 ∧ m0.1 42 0 1 ≤ 1000 := hG.1 42 _ rfl _ _
    have b2 : 0 ≤ m0.1 34 0 16 ∧ m0.1 34 0 16 ≤ c := hG.1 34 _ rfl _ _
    have b3 : 0 ≤ m0.1 34 0 15 ∧ m0.1 34 0 15 ≤ c := hG.1 34 _ rfl _ _
    have hO1 : 1 ≤ m0.1 42 0 0 + m0.1 42 0 1 → 1 ≤ zRO m0 1 := fun h => zRO_1 hr9 (by omega)
    obtain ⟨hf0, hf1, hf2, hf3, hf4⟩ := id hf
    have hk9 := hz0.2.2.1
    obtain ⟨zf0, zf1, zv1, zv2, -, zp0, zp1, -⟩ := id hk9
    obtain ⟨za0, za1, zb1, zj0, zj1, -⟩ := id hz0.2.2.2.1
    have zgs : zgr m0 (3 * fG.toNat + (vG % 3).toNat) aG.toNat = (zKR m0 (3 * fG.toNat + (vG % 3).toNat) aG.toNat).1 := rfl
    have zq8 : 0 ≤ m0.1 43 0 (3 * fG.toNat + (vG % 3).toNat) ∧ m0.1 43 0 (3 * fG.toNat + (vG % 3).toNat) ≤ 7 := hG.1 43 _ rfl _ _
    obtain ⟨zg0, zg1, zg2⟩ := id hz0.2.2.2.2
    have zt9 : tG = 0 ∨ tG = 1 := hz0.1.elim (fun z => Or.inl z.1) (fun z => Or.inr z.1)
    have b1 : 0 ≤ m.1 49 0 0 ∧ m.1 49 0 0 ≤ 1 := hGm.1 49 _ rfl _ _
    have b2 : 0 ≤ m.1 49 0 1 ∧ m.1 49 0 1 ≤ 1000 := hGm.1 49 _ rfl _ _
    have t3 : (0 ≤ (m.1 49 0 1) → (m.1 49 0 1).tmod 3 = (m.1 49 0 1) % 3) ∧ ((m.1 49 0 1) < 0 → (m.1 49 0 1).tmod 3 = -((-((m.1 49 0 1))) % 3)) := ⟨fun z => Int.tmod_eq_emod_of_nonneg z, fun z => wtmod_neg z⟩
    have b4 : 0 ≤ m.1 49 0 2 ∧ m.1 49 0 2 ≤ 6 := hGm.1 49 _ rfl _ _
    have b5 : 0 ≤ m.1 44 0 (((7 * ((3 * (m.1 49 0 0)) + ((m.1 49 0 1).tmod 3))) + (m.1 49 0 2)).toNat) ∧ m.1 44 0 (((7 * ((3 * (m.1 49 0 0)) + ((m.1 49 0 1).tmod 3))) + (m.1 49 0 2)).toNat) ≤ 104 := hGm.1 44 _ rfl _ _
    have b6 : 0 ≤ m.1 49 0 3 ∧ m.1 49 0 3 ≤ 1 := hGm.1 49 _ rfl _ _
    refine ww_go 29 (pc' := 170) (L' := [(4, .inl ((7 * ((3 * (m.1 49 0 0)) + ((m.1 49 0 1).tmod 3))) + (m.1 49 0 2))), (0, .inr (.inr (.inl (some (34, 0))))), (2, .inl w), (3, .inl q)]) (st' := [.inl (m.1 49 0 3), .inl (m.1 44 0 (((7 * ((3 * (m.1 49 0 0)) + ((m.1 49 0 1).tmod 3))) + (m.1 49 0 2)).toNat))]) (m' := m) (o := some ((0 < 1) ∧ (0 < 1 ∧ 0 ≤ (0 : Int) ∧ (0 : Int) < ((5 : Nat) : Int)) ∧ (0 < 1) ∧ (0 < 1 ∧ 0 ≤ (1 : Int) ∧ (1 : Int) < ((5 : Nat) : Int)) ∧ (-2147483648 ≤ m.1 49 0 1 ∧ m.1 49 0 1 ≤ 2147483647 ∧ 0 < (3 : Int) ∧ (3 : Int) ≤ 2147483647) ∧ (0 < 1) ∧ (0 < 1 ∧ 0 ≤ (2 : Int) ∧ (2 : Int) < ((5 : Nat) : Int)) ∧ (0 < 1) ∧ (0 < 1 ∧ 0 ≤ (7 * ((3 * (m.1 49 0 0)) + ((m.1 49 0 1).tmod 3))) + (m.1 49 0 2) ∧ (7 * ((3 * (m.1 49 0 0)) + ((m.1 49 0 1).tmod 3))) + (m.1 49 0 2) < ((42 : Nat) : Int)) ∧ (0 < 1) ∧ (0 < 1 ∧ 0 ≤ (3 : Int) ∧ (3 : Int) < ((5 : Nat) : Int)))) rfl (show (0 < 1) ∧ (0 < 1 ∧ 0 ≤ (0 : Int) ∧ (0 : Int) < ((5 : Nat) : Int)) ∧ (0 < 1) ∧ (0 < 1 ∧ 0 ≤ (1 : Int) ∧ (1 : Int) < ((5 : Nat) : Int)) ∧ (-2147483648 ≤ m.1 49 0 1 ∧ m.1 49 0 1 ≤ 2147483647 ∧ 0 < (3 : Int) ∧ (3 : Int) ≤ 2147483647) ∧ (0 < 1) ∧ (0 < 1 ∧ 0 ≤ (2 : Int) ∧ (2 : Int) < ((5 : Nat) : Int)) ∧ (0 < 1) ∧ (0 < 1 ∧ 0 ≤ (7 * ((3 * (m.1 49 0 0)) + ((m.1 49 0 1).tmod 3))) + (m.1 49 0 2) ∧ (7 * ((3 * (m.1 49 0 0)) + ((m.1 49 0 1).tmod 3))) + (m.1 49 0 2) < ((42 : Nat) : Int)) ∧ (0 < 1) ∧ (0 < 1 ∧ 0 ≤ (3 : Int) ∧ (3 : Int) < ((5 : Nat) : Int)) from by omega) ?_
    refine ww_call (vs := [.inl (m.1 44 0 (((7 * ((3 * (m.1 49 0 0)) + ((m.1 49 0 1).tmod 3))) + (m.1 49 0 2)).toNat)), .inl (m.1 49 0 3)]) (r := []) (p := True) rfl rfl rfl rfl trivial (zs229 (m.1 44 0 (((7 * ((3 * (m.1 49 0 0)) + ((m.1 49 0 1).tmod 3))) + (m.1 49 0 2)).toNat)) (m.1 49 0 3) (by omega)) ?_
    rintro _ _ _ ⟨r7, rfl, rfl, rfl, hr8⟩
    show wW (zK sc) zM242 173 [(4, .inl ((7 * ((3 * (m.1 49 0 0)) + ((m.1 49 0 1).tmod 3))) + (m.1 49 0 2))), (0, .inr (.inr (.inl (some (34, 0))))), (2, .inl w), (3, .inl q)] [.inl r7] _ _ _
    have b9 : 0 ≤ m.1 49 0 1 ∧ m.1 49 0 1 ≤ 1000 := hGm.1 49 _ rfl _ _
    have b10 : 0 ≤ m.1 49 0 2 ∧ m.1 49 0 2 ≤ 6 := hGm.1 49 _ rfl _ _
    have b11 : 0 ≤ m.1 49 0 3 ∧ m.1 49 0 3 ≤ 1 := hGm.1 49 _ rfl _ _
    have b12 : 0 ≤ m.1 49 0 4 ∧ m.1 49 0 4 ≤ 31 := hGm.1 49 _ rfl _ _
    refine ww_go 18 (pc' := 201) (L' := [(5, .inl r7), (4, .inl ((7 * ((3 * (m.1 49 0 0)) + ((m.1 49 0 1).tmod 3))) + (m.1 49 0 2))), (0, .inr (.inr (.inl (some (34, 0))))), (2, .inl w), (3, .inl q)]) (st' := [.inl r7, .inl (m.1 49 0 4), .inl (m.1 49 0 3), .inl (m.1 49 0 2), .inl (m.1 49 0 1)]) (m' := m) (o := some ((0 < 1) ∧ (0 < 1 ∧ 0 ≤ (1 : Int) ∧ (1 : Int) < ((5 : Nat) : Int)) ∧ (0 < 1) ∧ (0 < 1 ∧ 0 ≤ (2 : Int) ∧ (2 : Int) < ((5 : Nat) : Int)) ∧ (0 < 1) ∧ (0 < 1 ∧ 0 ≤ (3 : Int) ∧ (3 : Int) < ((5 : Nat) : Int)) ∧ (0 < 1) ∧ (0 < 1 ∧ 0 ≤ (4 : Int) ∧ (4 : Int) < ((5 : Nat) : Int)))) rfl (show (0 < 1) ∧ (0 < 1 ∧ 0 ≤ (1 : Int) ∧ (1 : Int) < ((5 : Nat) : Int)) ∧ (0 < 1) ∧ (0 < 1 ∧ 0 ≤ (2 : Int) ∧ (2 : Int) < ((5 : Nat) : Int)) ∧ (0 < 1) ∧ (0 < 1 ∧ 0 ≤ (3 : Int) ∧ (3 : Int) < ((5 : Nat) : Int)) ∧ (0 < 1) ∧ (0 < 1 ∧ 0 ≤ (4 : Int) ∧ (4 : Int) < ((5 : Nat) : Int)) from by omega) ?_
    refine ww_call (vs := [.inl (m.1 49 0 1), .inl (m.1 49 0 2), .inl (m.1 49 0 3), .inl (m.1 49 0 4), .inl r7]) (r := []) (p := True) rfl rfl rfl rfl trivial (zs222 (m.1 49 0 1) (m.1 49 0 2) (m.1 49 0 3) (m.1 49 0 4) r7 (by omega)) ?_
    rintro _ _ _ ⟨r13, rfl, rfl, rfl, hr14⟩
    show wW (zK sc) zM242 204 [(5, .inl r7), (4, .inl ((7 * ((3 * (m.1 49 0 0)) + ((m.1 49 0 1).tmod 3))) + (m.1 49 0 2))), (0, .inr (.inr (.inl (some (34, 0))))), (2, .inl w), (3, .inl q)] [.inl r13] _ _ _
    refine ww_go 5 (pc' := 212) (L' := [(9, .inl 0), (7, .inr (.inl (Int64.ofNat 0))), (6, .inl r13), (5, .inl r7), (4, .inl ((7 * ((3 * (m.1 49 0 0)) + ((m.1 49 0 1).tmod 3))) + (m.1 49 0 2))), (0, .inr (.inr (.inl (some (34, 0))))), (2, .inl w), (3, .inl q)]) (st' := []) (m' := m) (o := none) rfl trivial ?_
    refine ww_sub (L := [(0, .inr (.inr (.inl (some (34, 0))))), (2, .inl w), (3, .inl q), (4, .inl ((7 * ((3 * (m.1 49 0 0)) + ((m.1 49 0 1).tmod 3))) + (m.1 49 0 2))), (5, .inl r7), (6, .inl r13), (7, .inr (.inl (Int64.ofNat 0))), (9, .inl 0)]) ⟨rfl, rfl, rfl, rfl, rfl, rfl, rfl, rfl, trivial⟩ rfl rfl ?_
    have zsz : m.1 44 0 (((7 * ((3 * (m.1 49 0 0)) + ((m.1 49 0 1).tmod 3))) + (m.1 49 0 2)).toNat) = (zKR m0 (3 * fG.toNat + (vG % 3).toNat) aG.toNat).1 := by rw [show ((7 * ((3 * (m.1 49 0 0)) + ((m.1 49 0 1).tmod 3))) + (m.1 49 0 2)).toNat = 7 * (3 * fG.toNat + (vG % 3).toNat) + aG.toNat from by omega, (hFm 44 0 (7 * (3 * fG.toNat + (vG % 3).toNat) + aG.toNat) (show ¬ ((44 = 34 ∧ (7 * (3 * fG.toNat + (vG % 3).toNat) + aG.toNat) = 0) ∨ (44 = 34 ∧ (7 * (3 * fG.toNat + (vG % 3).toNat) + aG.toNat) = 15 ∧ 1 ≤ m0.1 42 0 0 + m0.1 42 0 1) ∨ (44 = 34 ∧ (7 * (3 * fG.toNat + (vG % 3).toNat) + aG.toNat) = 16) ∨ (44 = 46 ∧ 1 ≤ m0.1 42 0 0 + m0.1 42 0 1) ∨ (44 = 49) ∨ (44 = 47 ∧ 24 * (m0.1 34 0 16 % 32).toNat ≤ (7 * (3 * fG.toNat + (vG % 3).toNat) + aG.toNat) ∧ (7 * (3 * fG.toNat + (vG % 3).toNat) + aG.toNat) < 24 * (m0.1 34 0 16 % 32).toNat + 24 ∧ 1 ≤ m0.1 42 0 0 + m0.1 42 0 1) ∨ (44 = 48 ∧ (7 * (3 * fG.toNat + (vG % 3).toNat) + aG.toNat) = (m0.1 34 0 16 % 32).toNat ∧ 1 ≤ m0.1 42 0 0 + m0.1 42 0 1)) from by omega)).1]; rfl
    exact (zs242_l212 hc hG hr9 _) w q ((7 * ((3 * (m.1 49 0 0)) + ((m.1 49 0 1).tmod 3))) + (m.1 49 0 2)) r7 r13 (Int64.ofNat 0) 0 tG gG fG vG pG aG bG jG m rfl (zB_mono hGm (by omega)) hFm (by omega) (by omega) (by exact hz0) (by exact hf) (by omega) (by have z9 := hr8; have z8 := zpc_2 (zKR m0 (3 * fG.toNat + (vG % 3).toNat) aG.toNat).1 bG; rw [show m.1 49 0 3 = bG from hf3, zsz] at z9; omega) (by rw [hr14.2, hf1, hf2, hf3, hf4]) (by rfl)
set_option maxRecDepth 8000 in
theorem zs242_l88 {sc : xSc} {n : Nat × Nat} {m0 : wm} {c : Int} (hc : 0 ≤ c ∧ c ≤ 900000)  (hG : zB c m0) (hr9 : zRC m0) : ∀ (d : Nat), ∀ (t : Int) (m : wm), 0 = d → zB (c + 1) m → zfr (fun k i j => (k = 34 ∧ j = 0) ∨ (k = 34 ∧ j = 15 ∧ 1 ≤ m0.1 42 0 0 + m0.1 42 0 1) ∨ (k = 34 ∧ j = 16) ∨ (k = 46 ∧ 1 ≤ m0.1 42 0 0 + m0.1 42 0 1) ∨ (k = 49) ∨ (k = 47 ∧ 24 * (m0.1 34 0 16 % 32).toNat ≤ j ∧ j < 24 * (m0.1 34 0 16 % 32).toNat + 24 ∧ 1 ≤ m0.1 42 0 0 + m0.1 42 0 1) ∨ (k = 48 ∧ j = (m0.1 34 0 16 % 32).toNat ∧ 1 ≤ m0.1 42 0 0 + m0.1 42 0 1)) m0 m → (0 ≤ t ∧ t ≤ 1 ∧ 1 ≤ m0.1 42 0 0 + m0.1 42 0 1) → (m.1 34 0 0 = 0 ∧ m.1 34 0 16 = m0.1 34 0 16) → (0 ≤ m.1 46 0 t.toNat ∧ m.1 46 0 t.toNat < zRO m0 t) → ((t = 0 ∧ m0.1 34 0 15 % 4 = 3 ∧ 1 ≤ zRO m0 0 ∨ t = 1 ∧ (m0.1 34 0 15 % 4 ≠ 3 ∨ zRO m0 0 < 1))) → (m.1 34 0 15 = m0.1 34 0 15 + 1 ∧ (m.1 46 0 t.toNat = m0.1 46 0 t.toNat ∨ m.1 46 0 t.toNat = 0 ∧ zRO m0 t ≤ m0.1 46 0 t.toNat) ∧ m.1 46 0 (1 - t).toNat = m0.1 46 0 (1 - t).toNat) →  wW (zK sc) zM242 88 [(0, .inr (.inr (.inl (some (34, 0))))), (1, .inl t)] [] n m (wr (fun vv n1 m1 => ∃ r : Int, vv = some (.inl r) ∧ n = n1 ∧ zB (c + 3) m1 ∧ zfr (fun k i j => (k = 34 ∧ j = 0) ∨ (k = 34 ∧ j = 15 ∧ 1 ≤ m0.1 42 0 0 + m0.1 42 0 1) ∨ (k = 34 ∧ j = 16) ∨ (k = 46 ∧ 1 ≤ m0.1 42 0 0 + m0.1 42 0 1) ∨ (k = 49) ∨ (k = 47 ∧ 24 * (m0.1 34 0 16 % 32).toNat ≤ j ∧ j < 24 * (m0.1 34 0 16 % 32).toNat + 24 ∧ 1 ≤ m0.1 42 0 0 + m0.1 42 0 1) ∨ (k = 48 ∧ j = (m0.1 34 0 16 % 32).toNat ∧ 1 ≤ m0.1 42 0 0 + m0.1 42 0 1)) m0 m1 ∧ ((m1.1 34 0 0 = 1 ∧ m0.1 42 0 0 + m0.1 42 0 1 = 0 ∧ m1.1 34 0 16 = m0.1 34 0 16 ∧ m1.1 48 0 (m0.1 34 0 16 % 32).toNat = m0.1 48 0 (m0.1 34 0 16 % 32).toNat ∧ m1.1 34 0 15 = m0.1 34 0 15 ∧ m1.1 46 0 = m0.1 46 0) ∨ (m1.1 34 0 0 = 0 ∧ 1 ≤ m0.1 42 0 0 + m0.1 42 0 1 ∧ r = m0.1 34 0 16 % 32 ∧ m1.1 34 0 16 = m0.1 34 0 16 + 1 ∧ m1.1 48 0 (m0.1 34 0 16 % 32).toNat = 1 ∧ zSnd m0 m1 (m0.1 34 0 16 % 32).toNat)))) := by
  intro d
  induction d using Nat.strongRecOn with
  | ind d ih =>
    intro t m hd hGm hFm hi hm hg hs hq
    have b0 : 0 ≤ m0.1 42 0 0 ∧ m0.1 42 0 0 ≤ 1000 := hG.1 42 _ rfl _ _
    have b1 : 0 ≤ m0.1 42 0 1 ∧ m0.1 42 0 1 ≤ 1000 := hG.1 42 _ rfl _ _
    have b2 : 0 ≤ m0.1 34 0 16 ∧ m0.1 34 0 16 ≤ c := hG.1 34 _ rfl _ _
    have b3 : 0 ≤ m0.1 34 0 15 ∧ m0.1 34 0 15 ≤ c := hG.1 34 _ rfl _ _
    have hO1 : 1 ≤ m0.1 42 0 0 + m0.1 42 0 1 → 1 ≤ zRO m0 1 := fun h => zRO_1 hr9 (by omega)
    have b1 : 0 ≤ m.1 46 0 t.toNat ∧ m.1 46 0 t.toNat ≤ (c + 1) := hGm.1 46 _ rfl _ _
    refine ww_go 6 (pc' := 96) (L' := [(0, .inr (.inr (.inl (some (34, 0))))), (1, .inl t)]) (st' := [.inl (m.1 46 0 t.toNat), .inl t, .inr (.inr (.inl (some (34, 0))))]) (m' := m) (o := some ((0 < 1) ∧ (0 < 1 ∧ 0 ≤ t ∧ t < ((2 : Nat) : Int)))) rfl (show (0 < 1) ∧ (0 < 1 ∧ 0 ≤ t ∧ t < ((2 : Nat) : Int)) from by omega) ?_
    refine ww_call (vs := [.inr (.inr (.inl (some (34, 0)))), .inl t, .inl (m.1 46 0 t.toNat)]) (r := []) (p := 0 < 1) rfl rfl rfl rfl (show 0 < 1 from by omega) (zs220 (c := (c + 1)) (by omega) t (m.1 46 0 t.toNat) hGm (by omega)) ?_
    rintro _ _ m4 ⟨r2, rfl, rfl, hGm4, hEm4, hr3⟩
    have hFm4 : zfr (fun k i j => (k = 34 ∧ j = 0) ∨ (k = 34 ∧ j = 15 ∧ 1 ≤ m0.1 42 0 0 + m0.1 42 0 1) ∨ (k = 34 ∧ j = 16) ∨ (k = 46 ∧ 1 ≤ m0.1 42 0 0 + m0.1 42 0 1) ∨ (k = 49) ∨ (k = 47 ∧ 24 * (m0.1 34 0 16 % 32).toNat ≤ j ∧ j < 24 * (m0.1 34 0 16 % 32).toNat + 24 ∧ 1 ≤ m0.1 42 0 0 + m0.1 42 0 1) ∨ (k = 48 ∧ j = (m0.1 34 0 16 % 32).toNat ∧ 1 ≤ m0.1 42 0 0 + m0.1 42 0 1)) m0 m4 := zfr_tr hFm hEm4 (fun k i j z => Or.inr (Or.inr (Or.inr (Or.inr (Or.inl z)))))
    have w5 : m4.1 34 0 0 = m.1 34 0 0 := (hEm4 34 0 0 (show ¬ ((34 = 49)) from by omega)).1
    have w6 : m4.1 34 0 16 = m.1 34 0 16 := (hEm4 34 0 16 (show ¬ ((34 = 49)) from by omega)).1
    have w7 : m4.1 34 0 15 = m.1 34 0 15 := (hEm4 34 0 15 (show ¬ ((34 = 49)) from by omega)).1
    have w8 : m4.1 48 0 ((m0.1 34 0 16 % 32).toNat) = m.1 48 0 ((m0.1 34 0 16 % 32).toNat) := (hEm4 48 0 ((m0.1 34 0 16 % 32).toNat) (show ¬ ((48 = 49)) from by omega)).1
    have w9 : m4.1 46 0 t.toNat = m.1 46 0 t.toNat := (hEm4 46 0 t.toNat (show ¬ ((46 = 49)) from by omega)).1
    have w10 : m4.1 46 0 ((1 - t).toNat) = m.1 46 0 ((1 - t).toNat) := (hEm4 46 0 ((1 - t).toNat) (show ¬ ((46 = 49)) from by omega)).1
    show wW (zK sc) zM242 99 [(0, .inr (.inr (.inl (some (34, 0))))), (1, .inl t)] [.inl r2] _ _ _
    have zo11 : zRO m t = zRO m0 t := zRO_fr hFm (fun f => (show ¬ ((42 = 34 ∧ f = 0) ∨ (42 = 34 ∧ f = 15 ∧ 1 ≤ m0.1 42 0 0 + m0.1 42 0 1) ∨ (42 = 34 ∧ f = 16) ∨ (42 = 46 ∧ 1 ≤ m0.1 42 0 0 + m0.1 42 0 1) ∨ (42 = 49) ∨ (42 = 47 ∧ 24 * (m0.1 34 0 16 % 32).toNat ≤ f ∧ f < 24 * (m0.1 34 0 16 % 32).toNat + 24 ∧ 1 ≤ m0.1 42 0 0 + m0.1 42 0 1) ∨ (42 = 48 ∧ f = (m0.1 34 0 16 % 32).toNat ∧ 1 ≤ m0.1 42 0 0 + m0.1 42 0 1)) from by omega)) (fun t => (show ¬ ((43 = 34 ∧ t = 0) ∨ (43 = 34 ∧ t = 15 ∧ 1 ≤ m0.1 42 0 0 + m0.1 42 0 1) ∨ (43 = 34 ∧ t = 16) ∨ (43 = 46 ∧ 1 ≤ m0.1 42 0 0 + m0.1 42 0 1) ∨ (43 = 49) ∨ (43 = 47 ∧ 24 * (m0.1 34 0 16 % 32).toNat ≤ t ∧ t < 24 * (m0.1 34 0 16 % 32).toNat + 24 ∧ 1 ≤ m0.1 42 0 0 + m0.1 42 0 1) ∨ (43 = 48 ∧ t = (m0.1 34 0 16 % 32).toNat ∧ 1 ≤ m0.1 42 0 0 + m0.1 42 0 1)) from by omega)) (fun t => (show ¬ ((44 = 34 ∧ t = 0) ∨ (44 = 34 ∧ t = 15 ∧ 1 ≤ m0.1 42 0 0 + m0.1 42 0 1) ∨ (44 = 34 ∧ t = 16) ∨ (44 = 46 ∧ 1 ≤ m0.1 42 0 0 + m0.1 42 0 1) ∨ (44 = 49) ∨ (44 = 47 ∧ 24 * (m0.1 34 0 16 % 32).toNat ≤ t ∧ t < 24 * (m0.1 34 0 16 % 32).toNat + 24 ∧ 1 ≤ m0.1 42 0 0 + m0.1 42 0 1) ∨ (44 = 48 ∧ t = (m0.1 34 0 16 % 32).toNat ∧ 1 ≤ m0.1 42 0 0 + m0.1 42 0 1)) from by omega)) t
    have b12 : 0 ≤ m4.1 46 0 t.toNat ∧ m4.1 46 0 t.toNat ≤ (c + 1) := hGm4.1 46 _ rfl _ _
    refine ww_go 9 (pc' := 110) (L' := [(2, .inl r2), (0, .inr (.inr (.inl (some (34, 0))))), (1, .inl t)]) (st' := []) (m' := wuI m4 46 0 t.toNat ((m4.1 46 0 t.toNat) + 1)) (o := some ((0 < 1) ∧ (0 < 1 ∧ 0 ≤ t ∧ t < ((2 : Nat) : Int)) ∧ (0 < 1 ∧ 0 ≤ t ∧ t < ((2 : Nat) : Int)))) rfl (show (0 < 1) ∧ (0 < 1 ∧ 0 ≤ t ∧ t < ((2 : Nat) : Int)) ∧ (0 < 1 ∧ 0 ≤ t ∧ t < ((2 : Nat) : Int)) from by omega) ?_
    obtain ⟨m13, hm13⟩ : ∃ zq9 : wm, zq9 = wuI m4 46 0 t.toNat ((m4.1 46 0 t.toNat) + 1) := ⟨_, rfl⟩
    rw [← hm13]
    have hXm13 := zB_mono (c' := ((c + 1) + 1)) hGm4 (by omega)
    have hGm13 : zB ((c + 1) + 1) m13 := by rw [hm13]; exact zB_wI rfl (show 0 ≤ (m4.1 46 0 t.toNat) + 1 ∧ (m4.1 46 0 t.toNat) + 1 ≤ ((c + 1) + 1) from by omega) hXm13
    have hFm13 : zfr (fun k i j => (k = 34 ∧ j = 0) ∨ (k = 34 ∧ j = 15 ∧ 1 ≤ m0.1 42 0 0 + m0.1 42 0 1) ∨ (k = 34 ∧ j = 16) ∨ (k = 46 ∧ 1 ≤ m0.1 42 0 0 + m0.1 42 0 1) ∨ (k = 49) ∨ (k = 47 ∧ 24 * (m0.1 34 0 16 % 32).toNat ≤ j ∧ j < 24 * (m0.1 34 0 16 % 32).toNat + 24 ∧ 1 ≤ m0.1 42 0 0 + m0.1 42 0 1) ∨ (k = 48 ∧ j = (m0.1 34 0 16 % 32).toNat ∧ 1 ≤ m0.1 42 0 0 + m0.1 42 0 1)) m0 m13 := by rw [hm13]; exact zfr_wI hFm4 (show (46 = 34 ∧ t.toNat = 0) ∨ (46 = 34 ∧ t.toNat = 15 ∧ 1 ≤ m0.1 42 0 0 + m0.1 42 0 1) ∨ (46 = 34 ∧ t.toNat = 16) ∨ (46 = 46 ∧ 1 ≤ m0.1 42 0 0 + m0.1 42 0 1) ∨ (46 = 49) ∨ (46 = 47 ∧ 24 * (m0.1 34 0 16 % 32).toNat ≤ t.toNat ∧ t.toNat < 24 * (m0.1 34 0 16 % 32).toNat + 24 ∧ 1 ≤ m0.1 42 0 0 + m0.1 42 0 1) ∨ (46 = 48 ∧ t.toNat = (m0.1 34 0 16 % 32).toNat ∧ 1 ≤ m0.1 42 0 0 + m0.1 42 0 1) from Or.inr (Or.inr (Or.inr (Or.inl ((show (46 = 46 ∧ 1 ≤ m0.1 42 0 0 + m0.1 42 0 1) from by omega))))))
    have s14 : m13.1 46 0 t.toNat = (m4.1 46 0 t.toNat) + 1 := by rw [hm13]; exact wuI_self
    have w15 : m13.1 34 0 0 = m4.1 34 0 0 := by rw [hm13]; rfl
    have w16 : m13.1 34 0 16 = m4.1 34 0 16 := by rw [hm13]; rfl
    have w17 : m13.1 34 0 15 = m4.1 34 0 15 := by rw [hm13]; rfl
    have w18 : m13.1 48 0 ((m0.1 34 0 16 % 32).toNat) = m4.1 48 0 ((m0.1 34 0 16 % 32).toNat) := by rw [hm13]; rfl
    have w19 : m13.1 49 0 0 = m4.1 49 0 0 := by rw [hm13]; rfl
    have w20 : m13.1 49 0 1 = m4.1 49 0 1 := by rw [hm13]; rfl
    have w21 : m13.1 49 0 2 = m4.1 49 0 2 := by rw [hm13]; rfl
    have w22 : m13.1 49 0 3 = m4.1 49 0 3 := by rw [hm13]; rfl
    have w23 : m13.1 49 0 4 = m4.1 49 0 4 := by rw [hm13]; rfl
    have w24 : m13.1 46 0 (1 - t).toNat = m4.1 46 0 (1 - t).toNat := by rw [hm13]; exact wuI_nj (by omega)
    have b25 : 0 ≤ m13.1 34 0 16 ∧ m13.1 34 0 16 ≤ ((c + 1) + 1) := hGm13.1 34 _ rfl _ _
    have t26 : (0 ≤ (m13.1 34 0 16) → (m13.1 34 0 16).tmod 32 = (m13.1 34 0 16) % 32) ∧ ((m13.1 34 0 16) < 0 → (m13.1 34 0 16).tmod 32 = -((-((m13.1 34 0 16))) % 32)) := ⟨fun z => Int.tmod_eq_emod_of_nonneg z, fun z => wtmod_neg z⟩
    refine ww_go 11 (pc' := 128) (L' := [(3, .inl ((m13.1 34 0 16).tmod 32)), (2, .inl r2), (0, .inr (.inr (.inl (some (34, 0))))), (1, .inl t)]) (st' := []) (m' := wuI m13 34 0 16 ((m13.1 34 0 16) + 1)) (o := some ((0 < 1) ∧ (-2147483648 ≤ m13.1 34 0 16 ∧ m13.1 34 0 16 ≤ 2147483647 ∧ 0 < (32 : Int) ∧ (32 : Int) ≤ 2147483647) ∧ (0 < 1) ∧ (0 < 1))) rfl (show (0 < 1) ∧ (-2147483648 ≤ m13.1 34 0 16 ∧ m13.1 34 0 16 ≤ 2147483647 ∧ 0 < (32 : Int) ∧ (32 : Int) ≤ 2147483647) ∧ (0 < 1) ∧ (0 < 1) from by omega) ?_
    obtain ⟨m27, hm27⟩ : ∃ zq9 : wm, zq9 = wuI m13 34 0 16 ((m13.1 34 0 16) + 1) := ⟨_, rfl⟩
    rw [← hm27]
    have hXm27 := zB_mono (c' := (((c + 1) + 1) + 1)) hGm13 (by omega)
    have hGm27 : zB (((c + 1) + 1) + 1) m27 := by rw [hm27]; exact zB_wI rfl (show 0 ≤ (m13.1 34 0 16) + 1 ∧ (m13.1 34 0 16) + 1 ≤ (((c + 1) + 1) + 1) from by omega) hXm27
    have hFm27 : zfr (fun k i j => (k = 34 ∧ j = 0) ∨ (k = 34 ∧ j = 15 ∧ 1 ≤ m0.1 42 0 0 + m0.1 42 0 1) ∨ (k = 34 ∧ j = 16) ∨ (k = 46 ∧ 1 ≤ m0.1 42 0 0 + m0.1 42 0 1) ∨ (k = 49) ∨ (k = 47 ∧ 24 * (m0.1 34 0 16 % 32).toNat ≤ j ∧ j < 24 * (m0.1 34 0 16 % 32).toNat + 24 ∧ 1 ≤ m0.1 42 0 0 + m0.1 42 0 1) ∨ (k = 48 ∧ j = (m0.1 34 0 16 % 32).toNat ∧ 1 ≤ m0.1 42 0 0 + m0.1 42 0 1)) m0 m27 := by rw [hm27]; exact zfr_wI hFm13 (show (34 = 34 ∧ 16 = 0) ∨ (34 = 34 ∧ 16 = 15 ∧ 1 ≤ m0.1 42 0 0 + m0.1 42 0 1) ∨ (34 = 34 ∧ 16 = 16) ∨ (34 = 46 ∧ 1 ≤ m0.1 42 0 0 + m0.1 42 0 1) ∨ (34 = 49) ∨ (34 = 47 ∧ 24 * (m0.1 34 0 16 % 32).toNat ≤ 16 ∧ 16 < 24 * (m0.1 34 0 16 % 32).toNat + 24 ∧ 1 ≤ m0.1 42 0 0 + m0.1 42 0 1) ∨ (34 = 48 ∧ 16 = (m0.1 34 0 16 % 32).toNat ∧ 1 ≤ m0.1 42 0 0 + m0.1 42 0 1) from Or.inr (Or.inr (Or.inl (⟨rfl, rfl⟩))))
    have s28 : m27.1 34 0 16 = (m13.1 34 0 16) + 1 := by rw [hm27]; exact wuI_self
    have w29 : m27.1 34 0 0 = m13.1 34 0 0 := by rw [hm27]; exact wuI_nj (by omega)
    have w30 : m27.1 34 0 15 = m13.1 34 0 15 := by rw [hm27]; exact wuI_nj (by omega)
    have w31 : m27.1 48 0 ((m0.1 34 0 16 % 32).toNat) = m13.1 48 0 ((m0.1 34 0 16 % 32).toNat) := by rw [hm27]; rfl
    have w32 : m27.1 49 0 0 = m13.1 49 0 0 := by rw [hm27]; rfl
    have w33 : m27.1 49 0 1 = m13.1 49 0 1 := by rw [hm27]; rfl
    have w34 : m27.1 49 0 2 = m13.1 49 0 2 := by rw [hm27]; rfl
    have w35 : m27.1 49 0 3 = m13.1 49 0 3 := by rw [hm27]; rfl
    have w36 : m27.1 49 0 4 = m13.1 49 0 4 := by rw [hm27]; rfl
    have w37 : m27.1 46 0 t.toNat = m13.1 46 0 t.toNat := by rw [hm27]; rfl
    have w38 : m27.1 46 0 ((1 - t).toNat) = m13.1 46 0 ((1 - t).toNat) := by rw [hm27]; rfl
    refine ww_sub (L := [(0, .inr (.inr (.inl (some (34, 0))))), (2, .inl r2), (3, .inl ((m13.1 34 0 16).tmod 32))]) ⟨rfl, rfl, rfl, trivial⟩ rfl rfl ?_
    have e42 : m.1 42 0 = m0.1 42 0 := funext fun j => (hFm 42 0 j (show ¬ ((42 = 34 ∧ j = 0) ∨ (42 = 34 ∧ j = 15 ∧ 1 ≤ m0.1 42 0 0 + m0.1 42 0 1) ∨ (42 = 34 ∧ j = 16) ∨ (42 = 46 ∧ 1 ≤ m0.1 42 0 0 + m0.1 42 0 1) ∨ (42 = 49) ∨ (42 = 47 ∧ 24 * (m0.1 34 0 16 % 32).toNat ≤ j ∧ j < 24 * (m0.1 34 0 16 % 32).toNat + 24 ∧ 1 ≤ m0.1 42 0 0 + m0.1 42 0 1) ∨ (42 = 48 ∧ j = (m0.1 34 0 16 % 32).toNat ∧ 1 ≤ m0.1 42 0 0 + m0.1 42 0 1)) from by omega)).1
    have e43 : m.1 43 0 = m0.1 43 0 := funext fun j => (hFm 43 0 j (show ¬ ((43 = 34 ∧ j = 0) ∨ (43 = 34 ∧ j = 15 ∧ 1 ≤ m0.1 42 0 0 + m0.1 42 0 1) ∨ (43 = 34 ∧ j = 16) ∨ (43 = 46 ∧ 1 ≤ m0.1 42 0 0 + m0.1 42 0 1) ∨ (43 = 49) ∨ (43 = 47 ∧ 24 * (m0.1 34 0 16 % 32).toNat ≤ j ∧ j < 24 * (m0.1 34 0 16 % 32).toNat + 24 ∧ 1 ≤ m0.1 42 0 0 + m0.1 42 0 1) ∨ (43 = 48 ∧ j = (m0.1 34 0 16 % 32).toNat ∧ 1 ≤ m0.1 42 0 0 + m0.1 42 0 1)) from by omega)).1
    have e44 : m.1 44 0 = m0.1 44 0 := funext fun j => (hFm 44 0 j (show ¬ ((44 = 34 ∧ j = 0) ∨ (44 = 34 ∧ j = 15 ∧ 1 ≤ m0.1 42 0 0 + m0.1 42 0 1) ∨ (44 = 34 ∧ j = 16) ∨ (44 = 46 ∧ 1 ≤ m0.1 42 0 0 + m0.1 42 0 1) ∨ (44 = 49) ∨ (44 = 47 ∧ 24 * (m0.1 34 0 16 % 32).toNat ≤ j ∧ j < 24 * (m0.1 34 0 16 % 32).toNat + 24 ∧ 1 ≤ m0.1 42 0 0 + m0.1 42 0 1) ∨ (44 = 48 ∧ j = (m0.1 34 0 16 % 32).toNat ∧ 1 ≤ m0.1 42 0 0 + m0.1 42 0 1)) from by omega)).1
    obtain ⟨fG, vG, pG, aG, bG, jG, hk9, hl9, hd9⟩ := zLK_c e42 e43 e44 ((hr3).2.2.elim (fun z => z.2.2.2) (fun z => absurd z.2.1 (by omega)))
    obtain ⟨hd0, hd1, hd2, hd3, hd4⟩ := id hd9
    exact (zs242_l128 hc hG hr9 _) r2 ((m13.1 34 0 16).tmod 32) t (m.1 46 0 t.toNat) fG vG pG aG bG jG m27 rfl (zB_mono hGm27 (by omega)) hFm27 (by omega) (by omega) (by exact ⟨by omega, by omega, hk9, hl9, by omega, by omega, by omega⟩) (by exact ⟨by omega, by omega, by omega, by omega, by omega⟩)
set_option maxRecDepth 8000 in
theorem zs242_l57 {sc : xSc} {n : Nat × Nat} {m0 : wm} {c : Int} (hc : 0 ≤ c ∧ c ≤ 900000)  (hG : zB c m0) (hr9 : zRC m0) : ∀ (d : Nat), ∀ (t : Int) (m : wm), 0 = d → zB c m → zfr (fun k i j => (k = 34 ∧ j = 0) ∨ (k = 34 ∧ j = 15 ∧ 1 ≤ m0.1 42 0 0 + m0.1 42 0 1) ∨ (k = 34 ∧ j = 16) ∨ (k = 46 ∧ 1 ≤ m0.1 42 0 0 + m0.1 42 0 1) ∨ (k = 49) ∨ (k = 47 ∧ 24 * (m0.1 34 0 16 % 32).toNat ≤ j ∧ j < 24 * (m0.1 34 0 16 % 32).toNat + 24 ∧ 1 ≤ m0.1 42 0 0 + m0.1 42 0 1) ∨ (k = 48 ∧ j = (m0.1 34 0 16 % 32).toNat ∧ 1 ≤ m0.1 42 0 0 + m0.1 42 0 1)) m0 m → (0 ≤ t ∧ t ≤ 1 ∧ 1 ≤ m0.1 42 0 0 + m0.1 42 0 1) → (m.1 34 0 0 = 0 ∧ m.1 34 0 16 = m0.1 34 0 16) → (1 ≤ zRO m0 t) → ((t = 0 ∧ m0.1 34 0 15 % 4 = 3 ∧ 1 ≤ zRO m0 0 ∨ t = 1 ∧ (m0.1 34 0 15 % 4 ≠ 3 ∨ zRO m0 0 < 1))) → (m.1 34 0 15 = m0.1 34 0 15 ∧ m.1 46 0 t.toNat = m0.1 46 0 t.toNat ∧ m.1 46 0 (1 - t).toNat = m0.1 46 0 (1 - t).toNat) →  wW (zK sc) zM242 57 [(0, .inr (.inr (.inl (some (34, 0))))), (1, .inl t)] [] n m (wr (fun vv n1 m1 => ∃ r : Int, vv = some (.inl r) ∧ n = n1 ∧ zB (c + 3) m1 ∧ zfr (fun k i j => (k = 34 ∧ j = 0) ∨ (k = 34 ∧ j = 15 ∧ 1 ≤ m0.1 42 0 0 + m0.1 42 0 1) ∨ (k = 34 ∧ j = 16) ∨ (k = 46 ∧ 1 ≤ m0.1 42 0 0 + m0.1 42 0 1) ∨ (k = 49) ∨ (k = 47 ∧ 24 * (m0.1 34 0 16 % 32).toNat ≤ j ∧ j < 24 * (m0.1 34 0 16 % 32).toNat + 24 ∧ 1 ≤ m0.1 42 0 0 + m0.1 42 0 1) ∨ (k = 48 ∧ j = (m0.1 34 0 16 % 32).toNat ∧ 1 ≤ m0.1 42 0 0 + m0.1 42 0 1)) m0 m1 ∧ ((m1.1 34 0 0 = 1 ∧ m0.1 42 0 0 + m0.1 42 0 1 = 0 ∧ m1.1 34 0 16 = m0.1 34 0 16 ∧ m1.1 48 0 (m0.1 34 0 16 % 32).toNat = m0.1 48 0 (m0.1 34 0 16 % 32).toNat ∧ m1.1 34 0 15 = m0.1 34 0 15 ∧ m1.1 46 0 = m0.1 46 0) ∨ (m1.1 34 0 0 = 0 ∧ 1 ≤ m0.1 42 0 0 + m0.1 42 0 1 ∧ r = m0.1 34 0 16 % 32 ∧ m1.1 34 0 16 = m0.1 34 0 16 + 1 ∧ m1.1 48 0 (m0.1 34 0 16 % 32).toNat = 1 ∧ zSnd m0 m1 (m0.1 34 0 16 % 32).toNat)))) := by
  intro d
  induction d using Nat.strongRecOn with
  | ind d ih =>
    intro t m hd hGm hFm hi hm hO hs hq
    have b0 : 0 ≤ m0.1 42 0 0 ∧ m0.1 42 0 0 ≤ 1000 := hG.1 42 _ rfl _ _
    have b1 : 0 ≤ m0.1 42 0 1 ∧ m0.1 42 0 1 ≤ 1000 := hG.1 42 _ rfl _ _
    have b2 : 0 ≤ m0.1 34 0 16 ∧ m0.1 34 0 16 ≤ c := hG.1 34 _ rfl _ _
    have b3 : 0 ≤ m0.1 34 0 15 ∧ m0.1 34 0 15 ≤ c := hG.1 34 _ rfl _ _
    have hO1 : 1 ≤ m0.1 42 0 0 + m0.1 42 0 1 → 1 ≤ zRO m0 1 := fun h => zRO_1 hr9 (by omega)
    have bg9 : 0 ≤ m.1 46 0 t.toNat ∧ m.1 46 0 t.toNat ≤ c := hGm.1 46 _ rfl _ _
    have b1 : 0 ≤ m.1 34 0 15 ∧ m.1 34 0 15 ≤ c := hGm.1 34 _ rfl _ _
    refine ww_go 6 (pc' := 67) (L' := [(0, .inr (.inr (.inl (some (34, 0))))), (1, .inl t)]) (st' := []) (m' := wuI m 34 0 15 ((m.1 34 0 15) + 1)) (o := some ((0 < 1) ∧ (0 < 1))) rfl (show (0 < 1) ∧ (0 < 1) from by omega) ?_
    obtain ⟨m2, hm2⟩ : ∃ zq9 : wm, zq9 = wuI m 34 0 15 ((m.1 34 0 15) + 1) := ⟨_, rfl⟩
    rw [← hm2]
    have hXm2 := zB_mono (c' := (c + 1)) hGm (by omega)
    have hGm2 : zB (c + 1) m2 := by rw [hm2]; exact zB_wI rfl (show 0 ≤ (m.1 34 0 15) + 1 ∧ (m.1 34 0 15) + 1 ≤ (c + 1) from by omega) hXm2
    have hFm2 : zfr (fun k i j => (k = 34 ∧ j = 0) ∨ (k = 34 ∧ j = 15 ∧ 1 ≤ m0.1 42 0 0 + m0.1 42 0 1) ∨ (k = 34 ∧ j = 16) ∨ (k = 46 ∧ 1 ≤ m0.1 42 0 0 + m0.1 42 0 1) ∨ (k = 49) ∨ (k = 47 ∧ 24 * (m0.1 34 0 16 % 32).toNat ≤ j ∧ j < 24 * (m0.1 34 0 16 % 32).toNat + 24 ∧ 1 ≤ m0.1 42 0 0 + m0.1 42 0 1) ∨ (k = 48 ∧ j = (m0.1 34 0 16 % 32).toNat ∧ 1 ≤ m0.1 42 0 0 + m0.1 42 0 1)) m0 m2 := by rw [hm2]; exact zfr_wI hFm (show (34 = 34 ∧ 15 = 0) ∨ (34 = 34 ∧ 15 = 15 ∧ 1 ≤ m0.1 42 0 0 + m0.1 42 0 1) ∨ (34 = 34 ∧ 15 = 16) ∨ (34 = 46 ∧ 1 ≤ m0.1 42 0 0 + m0.1 42 0 1) ∨ (34 = 49) ∨ (34 = 47 ∧ 24 * (m0.1 34 0 16 % 32).toNat ≤ 15 ∧ 15 < 24 * (m0.1 34 0 16 % 32).toNat + 24 ∧ 1 ≤ m0.1 42 0 0 + m0.1 42 0 1) ∨ (34 = 48 ∧ 15 = (m0.1 34 0 16 % 32).toNat ∧ 1 ≤ m0.1 42 0 0 + m0.1 42 0 1) from by omega)
    have s3 : m2.1 34 0 15 = (m.1 34 0 15) + 1 := by rw [hm2]; exact wuI_self
    have w4 : m2.1 34 0 0 = m.1 34 0 0 := by rw [hm2]; exact wuI_nj (by omega)
    have w5 : m2.1 34 0 16 = m.1 34 0 16 := by rw [hm2]; exact wuI_nj (by omega)
    have w6 : m2.1 48 0 ((m0.1 34 0 16 % 32).toNat) = m.1 48 0 ((m0.1 34 0 16 % 32).toNat) := by rw [hm2]; rfl
    have w7 : m2.1 49 0 0 = m.1 49 0 0 := by rw [hm2]; rfl
    have w8 : m2.1 49 0 1 = m.1 49 0 1 := by rw [hm2]; rfl
    have w9 : m2.1 49 0 2 = m.1 49 0 2 := by rw [hm2]; rfl
    have w10 : m2.1 49 0 3 = m.1 49 0 3 := by rw [hm2]; rfl
    have w11 : m2.1 49 0 4 = m.1 49 0 4 := by rw [hm2]; rfl
    have w12 : m2.1 46 0 t.toNat = m.1 46 0 t.toNat := by rw [hm2]; rfl
    have w13 : m2.1 46 0 ((1 - t).toNat) = m.1 46 0 ((1 - t).toNat) := by rw [hm2]; rfl
    have b14 : 0 ≤ m2.1 46 0 t.toNat ∧ m2.1 46 0 t.toNat ≤ (c + 1) := hGm2.1 46 _ rfl _ _
    refine ww_go 6 (pc' := 75) (L' := [(0, .inr (.inr (.inl (some (34, 0))))), (1, .inl t)]) (st' := [.inl (m2.1 46 0 t.toNat), .inl t, .inr (.inr (.inl (some (34, 0))))]) (m' := m2) (o := some ((0 < 1) ∧ (0 < 1 ∧ 0 ≤ t ∧ t < ((2 : Nat) : Int)))) rfl (show (0 < 1) ∧ (0 < 1 ∧ 0 ≤ t ∧ t < ((2 : Nat) : Int)) from by omega) ?_
    refine ww_call (vs := [.inr (.inr (.inl (some (34, 0)))), .inl t, .inl (m2.1 46 0 t.toNat)]) (r := []) (p := 0 < 1) rfl rfl rfl rfl (show 0 < 1 from by omega) (zs220 (c := (c + 1)) (by omega) t (m2.1 46 0 t.toNat) hGm2 (by omega)) ?_
    rintro _ _ m17 ⟨r15, rfl, rfl, hGm17, hEm17, hr16⟩
    have hFm17 : zfr (fun k i j => (k = 34 ∧ j = 0) ∨ (k = 34 ∧ j = 15 ∧ 1 ≤ m0.1 42 0 0 + m0.1 42 0 1) ∨ (k = 34 ∧ j = 16) ∨ (k = 46 ∧ 1 ≤ m0.1 42 0 0 + m0.1 42 0 1) ∨ (k = 49) ∨ (k = 47 ∧ 24 * (m0.1 34 0 16 % 32).toNat ≤ j ∧ j < 24 * (m0.1 34 0 16 % 32).toNat + 24 ∧ 1 ≤ m0.1 42 0 0 + m0.1 42 0 1) ∨ (k = 48 ∧ j = (m0.1 34 0 16 % 32).toNat ∧ 1 ≤ m0.1 42 0 0 + m0.1 42 0 1)) m0 m17 := zfr_tr hFm2 hEm17 (fun k i j z => Or.inr (Or.inr (Or.inr (Or.inr (Or.inl z)))))
    have w18 : m17.1 34 0 0 = m2.1 34 0 0 := (hEm17 34 0 0 (show ¬ ((34 = 49)) from by omega)).1
    have w19 : m17.1 34 0 16 = m2.1 34 0 16 := (hEm17 34 0 16 (show ¬ ((34 = 49)) from by omega)).1
    have w20 : m17.1 34 0 15 = m2.1 34 0 15 := (hEm17 34 0 15 (show ¬ ((34 = 49)) from by omega)).1
    have w21 : m17.1 48 0 ((m0.1 34 0 16 % 32).toNat) = m2.1 48 0 ((m0.1 34 0 16 % 32).toNat) := (hEm17 48 0 ((m0.1 34 0 16 % 32).toNat) (show ¬ ((48 = 49)) from by omega)).1
    have w22 : m17.1 46 0 t.toNat = m2.1 46 0 t.toNat := (hEm17 46 0 t.toNat (show ¬ ((46 = 49)) from by omega)).1
    have w23 : m17.1 46 0 ((1 - t).toNat) = m2.1 46 0 ((1 - t).toNat) := (hEm17 46 0 ((1 - t).toNat) (show ¬ ((46 = 49)) from by omega)).1
    show wW (zK sc) zM242 78 [(0, .inr (.inr (.inl (some (34, 0))))), (1, .inl t)] [.inl r15] _ _ _
    have zo24 : zRO m2 t = zRO m0 t := zRO_fr hFm2 (fun f => (show ¬ ((42 = 34 ∧ f = 0) ∨ (42 = 34 ∧ f = 15 ∧ 1 ≤ m0.1 42 0 0 + m0.1 42 0 1) ∨ (42 = 34 ∧ f = 16) ∨ (42 = 46 ∧ 1 ≤ m0.1 42 0 0 + m0.1 42 0 1) ∨ (42 = 49) ∨ (42 = 47 ∧ 24 * (m0.1 34 0 16 % 32).toNat ≤ f ∧ f < 24 * (m0.1 34 0 16 % 32).toNat + 24 ∧ 1 ≤ m0.1 42 0 0 + m0.1 42 0 1) ∨ (42 = 48 ∧ f = (m0.1 34 0 16 % 32).toNat ∧ 1 ≤ m0.1 42 0 0 + m0.1 42 0 1)) from by omega)) (fun t => (show ¬ ((43 = 34 ∧ t = 0) ∨ (43 = 34 ∧ t = 15 ∧ 1 ≤ m0.1 42 0 0 + m0.1 42 0 1) ∨ (43 = 34 ∧ t = 16) ∨ (43 = 46 ∧ 1 ≤ m0.1 42 0 0 + m0.1 42 0 1) ∨ (43 = 49) ∨ (43 = 47 ∧ 24 * (m0.1 34 0 16 % 32).toNat ≤ t ∧ t < 24 * (m0.1 34 0 16 % 32).toNat + 24 ∧ 1 ≤ m0.1 42 0 0 + m0.1 42 0 1) ∨ (43 = 48 ∧ t = (m0.1 34 0 16 % 32).toNat ∧ 1 ≤ m0.1 42 0 0 + m0.1 42 0 1)) from by omega)) (fun t => (show ¬ ((44 = 34 ∧ t = 0) ∨ (44 = 34 ∧ t = 15 ∧ 1 ≤ m0.1 42 0 0 + m0.1 42 0 1) ∨ (44 = 34 ∧ t = 16) ∨ (44 = 46 ∧ 1 ≤ m0.1 42 0 0 + m0.1 42 0 1) ∨ (44 = 49) ∨ (44 = 47 ∧ 24 * (m0.1 34 0 16 % 32).toNat ≤ t ∧ t < 24 * (m0.1 34 0 16 % 32).toNat + 24 ∧ 1 ≤ m0.1 42 0 0 + m0.1 42 0 1) ∨ (44 = 48 ∧ t = (m0.1 34 0 16 % 32).toNat ∧ 1 ≤ m0.1 42 0 0 + m0.1 42 0 1)) from by omega)) t
    refine ww_if (t := 88) rfl rfl (by omega) (fun (h25 : 0 ≤ r15) => ?_) (fun (h25 : ¬ (0 ≤ r15)) => ?_)
    · show wW (zK sc) zM242 88 [(0, .inr (.inr (.inl (some (34, 0))))), (1, .inl t)] [] _ _ _
      exact (zs242_l88 hc hG hr9 _) t m17 rfl (zB_mono hGm17 (by omega)) hFm17 (by omega) (by omega) (by omega) (by omega) (by omega)
    · show wW (zK sc) zM242 81 [(0, .inr (.inr (.inl (some (34, 0))))), (1, .inl t)] [] _ _ _
      refine ww_go 5 (pc' := 88) (L' := [(0, .inr (.inr (.inl (some (34, 0))))), (1, .inl t)]) (st' := []) (m' := wuI m17 46 0 t.toNat 0) (o := some ((0 < 1) ∧ (0 < 1 ∧ 0 ≤ t ∧ t < ((2 : Nat) : Int)))) rfl (show (0 < 1) ∧ (0 < 1 ∧ 0 ≤ t ∧ t < ((2 : Nat) : Int)) from by omega) ?_
      obtain ⟨m26, hm26⟩ : ∃ zq9 : wm, zq9 = wuI m17 46 0 t.toNat 0 := ⟨_, rfl⟩
      rw [← hm26]
      have hGm26 : zB (c + 1) m26 := by rw [hm26]; exact zB_wI rfl (show 0 ≤ (0 : Int) ∧ (0 : Int) ≤ (c + 1) from by omega) hGm17
      have hFm26 : zfr (fun k i j => (k = 34 ∧ j = 0) ∨ (k = 34 ∧ j = 15 ∧ 1 ≤ m0.1 42 0 0 + m0.1 42 0 1) ∨ (k = 34 ∧ j = 16) ∨ (k = 46 ∧ 1 ≤ m0.1 42 0 0 + m0.1 42 0 1) ∨ (k = 49) ∨ (k = 47 ∧ 24 * (m0.1 34 0 16 % 32).toNat ≤ j ∧ j < 24 * (m0.1 34 0 16 % 32).toNat + 24 ∧ 1 ≤ m0.1 42 0 0 + m0.1 42 0 1) ∨ (k = 48 ∧ j = (m0.1 34 0 16 % 32).toNat ∧ 1 ≤ m0.1 42 0 0 + m0.1 42 0 1)) m0 m26 := by rw [hm26]; exact zfr_wI hFm17 (show (46 = 34 ∧ t.toNat = 0) ∨ (46 = 34 ∧ t.toNat = 15 ∧ 1 ≤ m0.1 42 0 0 + m0.1 42 0 1) ∨ (46 = 34 ∧ t.toNat = 16) ∨ (46 = 46 ∧ 1 ≤ m0.1 42 0 0 + m0.1 42 0 1) ∨ (46 = 49) ∨ (46 = 47 ∧ 24 * (m0.1 34 0 16 % 32).toNat ≤ t.toNat ∧ t.toNat < 24 * (m0.1 34 0 16 % 32).toNat + 24 ∧ 1 ≤ m0.1 42 0 0 + m0.1 42 0 1) ∨ (46 = 48 ∧ t.toNat = (m0.1 34 0 16 % 32).toNat ∧ 1 ≤ m0.1 42 0 0 + m0.1 42 0 1) from Or.inr (Or.inr (Or.inr (Or.inl ((show (46 = 46 ∧ 1 ≤ m0.1 42 0 0 + m0.1 42 0 1) from by omega))))))
      have s27 : m26.1 46 0 t.toNat = (0 : Int) := by rw [hm26]; exact wuI_self
      have w28 : m26.1 34 0 0 = m17.1 34 0 0 := by rw [hm26]; rfl
      have w29 : m26.1 34 0 16 = m17.1 34 0 16 := by rw [hm26]; rfl
      have w30 : m26.1 34 0 15 = m17.1 34 0 15 := by rw [hm26]; rfl
      have w31 : m26.1 48 0 ((m0.1 34 0 16 % 32).toNat) = m17.1 48 0 ((m0.1 34 0 16 % 32).toNat) := by rw [hm26]; rfl
      have w32 : m26.1 49 0 0 = m17.1 49 0 0 := by rw [hm26]; rfl
      have w33 : m26.1 49 0 1 = m17.1 49 0 1 := by rw [hm26]; rfl
      have w34 : m26.1 49 0 2 = m17.1 49 0 2 := by rw [hm26]; rfl
      have w35 : m26.1 49 0 3 = m17.1 49 0 3 := by rw [hm26]; rfl
      have w36 : m26.1 49 0 4 = m17.1 49 0 4 := by rw [hm26]; rfl
      have w37 : m26.1 46 0 (1 - t).toNat = m17.1 46 0 (1 - t).toNat := by rw [hm26]; exact wuI_nj (by omega)
      exact (zs242_l88 hc hG hr9 _) t m26 rfl (zB_mono hGm26 (by omega)) hFm26 (by omega) (by omega) (by omega) (by omega) (by omega)
set_option maxRecDepth 8000 in
/-- Mo.send -/
theorem zs242 {sc : xSc} {n : Nat × Nat} {m0 : wm} {c : Int} (hc : 0 ≤ c ∧ c ≤ 900000)  (hG : zB c m0) (hr9 : zRC m0) : wX (zK sc) 242 [.inr (.inr (.inl (some (34, 0))))] n m0 (wr (fun vv n1 m1 => ∃ r : Int, vv = some (.inl r) ∧ n = n1 ∧ zB (c + 3) m1 ∧ zfr (fun k i j => (k = 34 ∧ j = 0) ∨ (k = 34 ∧ j = 15 ∧ 1 ≤ m0.1 42 0 0 + m0.1 42 0 1) ∨ (k = 34 ∧ j = 16) ∨ (k = 46 ∧ 1 ≤ m0.1 42 0 0 + m0.1 42 0 1) ∨ (k = 49) ∨ (k = 47 ∧ 24 * (m0.1 34 0 16 % 32).toNat ≤ j ∧ j < 24 * (m0.1 34 0 16 % 32).toNat + 24 ∧ 1 ≤ m0.1 42 0 0 + m0.1 42 0 1) ∨ (k = 48 ∧ j = (m0.1 34 0 16 % 32).toNat ∧ 1 ≤ m0.1 42 0 0 + m0.1 42 0 1)) m0 m1 ∧ ((m1.1 34 0 0 = 1 ∧ m0.1 42 0 0 + m0.1 42 0 1 = 0 ∧ m1.1 34 0 16 = m0.1 34 0 16 ∧ m1.1 48 0 (m0.1 34 0 16 % 32).toNat = m0.1 48 0 (m0.1 34 0 16 % 32).toNat ∧ m1.1 34 0 15 = m0.1 34 0 15 ∧ m1.1 46 0 = m0.1 46 0) ∨ (m1.1 34 0 0 = 0 ∧ 1 ≤ m0.1 42 0 0 + m0.1 42 0 1 ∧ r = m0.1 34 0 16 % 32 ∧ m1.1 34 0 16 = m0.1 34 0 16 + 1 ∧ m1.1 48 0 (m0.1 34 0 16 % 32).toNat = 1 ∧ zSnd m0 m1 (m0.1 34 0 16 % 32).toNat)))) := by
  refine wX_of (N := zM242) rfl (Nat.le_of_ble_eq_true rfl) ?_
  show wW (zK sc) zM242 0 [(0, .inr (.inr (.inl (some (34, 0)))))] [] n m0 _
  have hF : zfr (fun k i j => (k = 34 ∧ j = 0) ∨ (k = 34 ∧ j = 15 ∧ 1 ≤ m0.1 42 0 0 + m0.1 42 0 1) ∨ (k = 34 ∧ j = 16) ∨ (k = 46 ∧ 1 ≤ m0.1 42 0 0 + m0.1 42 0 1) ∨ (k = 49) ∨ (k = 47 ∧ 24 * (m0.1 34 0 16 % 32).toNat ≤ j ∧ j < 24 * (m0.1 34 0 16 % 32).toNat + 24 ∧ 1 ≤ m0.1 42 0 0 + m0.1 42 0 1) ∨ (k = 48 ∧ j = (m0.1 34 0 16 % 32).toNat ∧ 1 ≤ m0.1 42 0 0 + m0.1 42 0 1)) m0 m0 := zfr_rf
  have b0 : 0 ≤ m0.1 42 0 0 ∧ m0.1 42 0 0 ≤ 1000 := hG.1 42 _ rfl _ _
  have b1 : 0 ≤ m0.1 42 0 1 ∧ m0.1 42 0 1 ≤ 1000 := hG.1 42 _ rfl _ _
  have b2 : 0 ≤ m0.1 34 0 16 ∧ m0.1 34 0 16 ≤ c := hG.1 34 _ rfl _ _
  have b3 : 0 ≤ m0.1 34 0 15 ∧ m0.1 34 0 15 ≤ c := hG.1 34 _ rfl _ _
  have hO1 : 1 ≤ m0.1 42 0 0 + m0.1 42 0 1 → 1 ≤ zRO m0 1 := fun h => zRO_1 hr9 (by omega)
  have b1 : 0 ≤ m0.1 42 0 0 ∧ m0.1 42 0 0 ≤ 1000 := hG.1 42 _ rfl _ _
  have b2 : 0 ≤ m0.1 42 0 1 ∧ m0.1 42 0 1 ≤ 1000 := hG.1 42 _ rfl _ _
  refine ww_go 10 (pc' := 14) (L' := [(0, .inr (.inr (.inl (some (34, 0)))))]) (st' := [.inl ((m0.1 42 0 0) + (m0.1 42 0 1)), .inr (.inr (.inl (some (34, 0))))]) (m' := m0) (o := some ((0 < 1) ∧ (0 < 1 ∧ 0 ≤ (0 : Int) ∧ (0 : Int) < ((2 : Nat) : Int)) ∧ (0 < 1) ∧ (0 < 1 ∧ 0 ≤ (1 : Int) ∧ (1 : Int) < ((2 : Nat) : Int)))) rfl (show (0 < 1) ∧ (0 < 1 ∧ 0 ≤ (0 : Int) ∧ (0 : Int) < ((2 : Nat) : Int)) ∧ (0 < 1) ∧ (0 < 1 ∧ 0 ≤ (1 : Int) ∧ (1 : Int) < ((2 : Nat) : Int)) from by omega) ?_
  refine ww_if (t := 21) rfl rfl (by omega) (fun (h3 : (m0.1 42 0 0) + (m0.1 42 0 1) ≠ 0) => ?_) (fun (h3 : ¬ ((m0.1 42 0 0) + (m0.1 42 0 1) ≠ 0)) => ?_)
  · show wW (zK sc) zM242 21 [(0, .inr (.inr (.inl (some (34, 0)))))] [.inr (.inr (.inl (some (34, 0))))] _ _ _
    refine ww_go 2 (pc' := 23) (L' := [(0, .inr (.inr (.inl (some (34, 0)))))]) (st' := [.inl 1, .inl 0, .inr (.inr (.inl (some (34, 0))))]) (m' := m0) (o := none) rfl trivial ?_
    refine ww_call (vs := [.inr (.inr (.inl (some (34, 0)))), .inl 0, .inl 1]) (r := []) (p := 0 < 1) rfl rfl rfl rfl (show 0 < 1 from by omega) (zs196 (c := c) (by omega) 0 1 hG (by omega)) ?_
    rintro _ _ m6 ⟨r4, rfl, rfl, hGm6, hEm6, hr5⟩
    have hFm6 : zfr (fun k i j => (k = 34 ∧ j = 0) ∨ (k = 34 ∧ j = 15 ∧ 1 ≤ m0.1 42 0 0 + m0.1 42 0 1) ∨ (k = 34 ∧ j = 16) ∨ (k = 46 ∧ 1 ≤ m0.1 42 0 0 + m0.1 42 0 1) ∨ (k = 49) ∨ (k = 47 ∧ 24 * (m0.1 34 0 16 % 32).toNat ≤ j ∧ j < 24 * (m0.1 34 0 16 % 32).toNat + 24 ∧ 1 ≤ m0.1 42 0 0 + m0.1 42 0 1) ∨ (k = 48 ∧ j = (m0.1 34 0 16 % 32).toNat ∧ 1 ≤ m0.1 42 0 0 + m0.1 42 0 1)) m0 m6 := zfr_tr hF hEm6 (fun k i j z => Or.inl z)
    have w7 : m6.1 34 0 16 = m0.1 34 0 16 := (hEm6 34 0 16 (show ¬ ((34 = 34 ∧ 16 = 0)) from by omega)).1
    have w8 : m6.1 34 0 15 = m0.1 34 0 15 := (hEm6 34 0 15 (show ¬ ((34 = 34 ∧ 15 = 0)) from by omega)).1
    have w9 : m6.1 48 0 ((m0.1 34 0 16 % 32).toNat) = m0.1 48 0 ((m0.1 34 0 16 % 32).toNat) := (hEm6 48 0 ((m0.1 34 0 16 % 32).toNat) (show ¬ ((48 = 34 ∧ ((m0.1 34 0 16 % 32).toNat) = 0)) from by omega)).1
    have w10 : m6.1 49 0 0 = m0.1 49 0 0 := (hEm6 49 0 0 (show ¬ ((49 = 34 ∧ 0 = 0)) from by omega)).1
    have w11 : m6.1 49 0 1 = m0.1 49 0 1 := (hEm6 49 0 1 (show ¬ ((49 = 34 ∧ 1 = 0)) from by omega)).1
    have w12 : m6.1 49 0 2 = m0.1 49 0 2 := (hEm6 49 0 2 (show ¬ ((49 = 34 ∧ 2 = 0)) from by omega)).1
    have w13 : m6.1 49 0 3 = m0.1 49 0 3 := (hEm6 49 0 3 (show ¬ ((49 = 34 ∧ 3 = 0)) from by omega)).1
    have w14 : m6.1 49 0 4 = m0.1 49 0 4 := (hEm6 49 0 4 (show ¬ ((49 = 34 ∧ 4 = 0)) from by omega)).1
    show wW (zK sc) zM242 26 [(0, .inr (.inr (.inl (some (34, 0)))))] [.inl r4] _ _ _
    refine ww_if (t := 31) rfl rfl (by omega) (fun (h15 : r4 = 0) => ?_) (fun (h15 : ¬ (r4 = 0)) => ?_)
    · show wW (zK sc) zM242 31 [(0, .inr (.inr (.inl (some (34, 0)))))] [] _ _ _
      have b16 : 0 ≤ m6.1 34 0 15 ∧ m6.1 34 0 15 ≤ c := hGm6.1 34 _ rfl _ _
      have t17 : (0 ≤ (m6.1 34 0 15) → (m6.1 34 0 15).tmod 4 = (m6.1 34 0 15) % 4) ∧ ((m6.1 34 0 15) < 0 → (m6.1 34 0 15).tmod 4 = -((-((m6.1 34 0 15))) % 4)) := ⟨fun z => Int.tmod_eq_emod_of_nonneg z, fun z => wtmod_neg z⟩
      refine ww_go 5 (pc' := 38) (L' := [(0, .inr (.inr (.inl (some (34, 0)))))]) (st' := [.inl 3, .inl ((m6.1 34 0 15).tmod 4)]) (m' := m6) (o := some ((0 < 1) ∧ (-2147483648 ≤ m6.1 34 0 15 ∧ m6.1 34 0 15 ≤ 2147483647 ∧ 0 < (4 : Int) ∧ (4 : Int) ≤ 2147483647))) rfl (show (0 < 1) ∧ (-2147483648 ≤ m6.1 34 0 15 ∧ m6.1 34 0 15 ≤ 2147483647 ∧ 0 < (4 : Int) ∧ (4 : Int) ≤ 2147483647) from by omega) ?_
      refine ww_ic (t := 55) rfl rfl (by omega) (fun (h18 : (m6.1 34 0 15).tmod 4 ≠ 3) => ?_) (fun (h18 : ¬ ((m6.1 34 0 15).tmod 4 ≠ 3)) => ?_)
      · show wW (zK sc) zM242 55 [(0, .inr (.inr (.inl (some (34, 0)))))] [] _ _ _
        refine ww_go 2 (pc' := 57) (L' := [(1, .inl 1), (0, .inr (.inr (.inl (some (34, 0)))))]) (st' := []) (m' := m6) (o := none) rfl trivial ?_
        refine ww_sub (L := [(0, .inr (.inr (.inl (some (34, 0))))), (1, .inl 1)]) ⟨rfl, rfl, trivial⟩ rfl rfl ?_
        exact (zs242_l57 hc hG hr9 _) 1 m6 rfl (zB_mono hGm6 (by omega)) hFm6 (by omega) (by omega) (by omega) (by omega) (by have y0m6 := (hEm6 46 0 (1 : Int).toNat (show ¬ ((46 = 34 ∧ ((1 : Int).toNat) = 0)) from by omega)).1; have y1m6 := (hEm6 46 0 (1 - (1 : Int)).toNat (show ¬ ((46 = 34 ∧ ((1 - (1 : Int)).toNat) = 0)) from by omega)).1; omega)
      · show wW (zK sc) zM242 41 [(0, .inr (.inr (.inl (some (34, 0)))))] [] _ _ _
        refine ww_go 3 (pc' := 44) (L' := [(0, .inr (.inr (.inl (some (34, 0)))))]) (st' := [.inl ((-1)), .inl 0, .inr (.inr (.inl (some (34, 0))))]) (m' := m6) (o := none) rfl trivial ?_
        refine ww_call (vs := [.inr (.inr (.inl (some (34, 0)))), .inl 0, .inl ((-1))]) (r := []) (p := 0 < 1) rfl rfl rfl rfl (show 0 < 1 from by omega) (zs220 (c := c) (by omega) 0 ((-1)) hGm6 (by omega)) ?_
        rintro _ _ m21 ⟨r19, rfl, rfl, hGm21, hEm21, hr20⟩
        have hFm21 : zfr (fun k i j => (k = 34 ∧ j = 0) ∨ (k = 34 ∧ j = 15 ∧ 1 ≤ m0.1 42 0 0 + m0.1 42 0 1) ∨ (k = 34 ∧ j = 16) ∨ (k = 46 ∧ 1 ≤ m0.1 42 0 0 + m0.1 42 0 1) ∨ (k = 49) ∨ (k = 47 ∧ 24 * (m0.1 34 0 16 % 32).toNat ≤ j ∧ j < 24 * (m0.1 34 0 16 % 32).toNat + 24 ∧ 1 ≤ m0.1 42 0 0 + m0.1 42 0 1) ∨ (k = 48 ∧ j = (m0.1 34 0 16 % 32).toNat ∧ 1 ≤ m0.1 42 0 0 + m0.1 42 0 1)) m0 m21 := zfr_tr hFm6 hEm21 (fun k i j z => Or.inr (Or.inr (Or.inr (Or.inr (Or.inl z)))))
        have w22 : m21.1 34 0 0 = m6.1 34 0 0 := (hEm21 34 0 0 (show ¬ ((34 = 49)) from by omega)).1
        have w23 : m21.1 34 0 16 = m6.1 34 0 16 := (hEm21 34 0 16 (show ¬ ((34 = 49)) from by omega)).1
        have w24 : m21.1 34 0 15 = m6.1 34 0 15 := (hEm21 34 0 15 (show ¬ ((34 = 49)) from by omega)).1
        have w25 : m21.1 48 0 ((m0.1 34 0 16 % 32).toNat) = m6.1 48 0 ((m0.1 34 0 16 % 32).toNat) := (hEm21 48 0 ((m0.1 34 0 16 % 32).toNat) (show ¬ ((48 = 49)) from by omega)).1
        show wW (zK sc) zM242 47 [(0, .inr (.inr (.inl (some (34, 0)))))] [.inl r19] _ _ _
        have zo26 : zRO m6 0 = zRO m0 0 := zRO_fr hFm6 (fun f => (show ¬ ((42 = 34 ∧ f = 0) ∨ (42 = 34 ∧ f = 15 ∧ 1 ≤ m0.1 42 0 0 + m0.1 42 0 1) ∨ (42 = 34 ∧ f = 16) ∨ (42 = 46 ∧ 1 ≤ m0.1 42 0 0 + m0.1 42 0 1) ∨ (42 = 49) ∨ (42 = 47 ∧ 24 * (m0.1 34 0 16 % 32).toNat ≤ f ∧ f < 24 * (m0.1 34 0 16 % 32).toNat + 24 ∧ 1 ≤ m0.1 42 0 0 + m0.1 42 0 1) ∨ (42 = 48 ∧ f = (m0.1 34 0 16 % 32).toNat ∧ 1 ≤ m0.1 42 0 0 + m0.1 42 0 1)) from by omega)) (fun t => (show ¬ ((43 = 34 ∧ t = 0) ∨ (43 = 34 ∧ t = 15 ∧ 1 ≤ m0.1 42 0 0 + m0.1 42 0 1) ∨ (43 = 34 ∧ t = 16) ∨ (43 = 46 ∧ 1 ≤ m0.1 42 0 0 + m0.1 42 0 1) ∨ (43 = 49) ∨ (43 = 47 ∧ 24 * (m0.1 34 0 16 % 32).toNat ≤ t ∧ t < 24 * (m0.1 34 0 16 % 32).toNat + 24 ∧ 1 ≤ m0.1 42 0 0 + m0.1 42 0 1) ∨ (43 = 48 ∧ t = (m0.1 34 0 16 % 32).toNat ∧ 1 ≤ m0.1 42 0 0 + m0.1 42 0 1)) from by omega)) (fun t => (show ¬ ((44 = 34 ∧ t = 0) ∨ (44 = 34 ∧ t = 15 ∧ 1 ≤ m0.1 42 0 0 + m0.1 42 0 1) ∨ (44 = 34 ∧ t = 16) ∨ (44 = 46 ∧ 1 ≤ m0.1 42 0 0 + m0.1 42 0 1) ∨ (44 = 49) ∨ (44 = 47 ∧ 24 * (m0.1 34 0 16 % 32).toNat ≤ t ∧ t < 24 * (m0.1 34 0 16 % 32).toNat + 24 ∧ 1 ≤ m0.1 42 0 0 + m0.1 42 0 1) ∨ (44 = 48 ∧ t = (m0.1 34 0 16 % 32).toNat ∧ 1 ≤ m0.1 42 0 0 + m0.1 42 0 1)) from by omega)) 0
        refine ww_go 1 (pc' := 48) (L' := [(0, .inr (.inr (.inl (some (34, 0)))))]) (st' := [.inl ((-1)), .inl r19]) (m' := m21) (o := none) rfl trivial ?_
        refine ww_ic (t := 55) rfl rfl (by omega) (fun (h27 : (-1) ≤ r19) => ?_) (fun (h27 : ¬ ((-1) ≤ r19)) => ?_)
        · show wW (zK sc) zM242 55 [(0, .inr (.inr (.inl (some (34, 0)))))] [] _ _ _
          refine ww_go 2 (pc' := 57) (L' := [(1, .inl 1), (0, .inr (.inr (.inl (some (34, 0)))))]) (st' := []) (m' := m21) (o := none) rfl trivial ?_
          refine ww_sub (L := [(0, .inr (.inr (.inl (some (34, 0))))), (1, .inl 1)]) ⟨rfl, rfl, trivial⟩ rfl rfl ?_
          exact (zs242_l57 hc hG hr9 _) 1 m21 rfl (zB_mono hGm21 (by omega)) hFm21 (by omega) (by omega) (by omega) (by omega) (by have y0m6 := (hEm6 46 0 (1 : Int).toNat (show ¬ ((46 = 34 ∧ ((1 : Int).toNat) = 0)) from by omega)).1; have y1m6 := (hEm6 46 0 (1 - (1 : Int)).toNat (show ¬ ((46 = 34 ∧ ((1 - (1 : Int)).toNat) = 0)) from by omega)).1; have y0m21 := (hEm21 46 0 (1 : Int).toNat (show ¬ ((46 = 49)) from by omega)).1; have y1m21 := (hEm21 46 0 (1 - (1 : Int)).toNat (show ¬ ((46 = 49)) from by omega)).1; omega)
        · show wW (zK sc) zM242 51 [(0, .inr (.inr (.inl (some (34, 0)))))] [] _ _ _
          refine ww_go 3 (pc' := 57) (L' := [(1, .inl 0), (0, .inr (.inr (.inl (some (34, 0)))))]) (st' := []) (m' := m21) (o := none) rfl trivial ?_
          refine ww_sub (L := [(0, .inr (.inr (.inl (some (34, 0))))), (1, .inl 0)]) ⟨rfl, rfl, trivial⟩ rfl rfl ?_
          exact (zs242_l57 hc hG hr9 _) 0 m21 rfl (zB_mono hGm21 (by omega)) hFm21 (by omega) (by omega) (by omega) (by omega) (by have y0m6 := (hEm6 46 0 (0 : Int).toNat (show ¬ ((46 = 34 ∧ ((0 : Int).toNat) = 0)) from by omega)).1; have y1m6 := (hEm6 46 0 (1 - (0 : Int)).toNat (show ¬ ((46 = 34 ∧ ((1 - (0 : Int)).toNat) = 0)) from by omega)).1; have y0m21 := (hEm21 46 0 (0 : Int).toNat (show ¬ ((46 = 49)) from by omega)).1; have y1m21 := (hEm21 46 0 (1 - (0 : Int)).toNat (show ¬ ((46 = 49)) from by omega)).1; omega)
    · show wW (zK sc) zM242 29 [(0, .inr (.inr (.inl (some (34, 0)))))] [] _ _ _
      refine ww_go 1 (pc' := 30) (L' := [(0, .inr (.inr (.inl (some (34, 0)))))]) (st' := [.inl 0]) (m' := m6) (o := none) rfl trivial ?_
      exact ww_rI rfl rfl ⟨_, rfl, rfl, zB_mono hGm6 (by omega), hFm6, Or.inl ⟨by omega, by omega, by omega, by omega, by omega, funext fun j => (hEm6 46 0 j (show ¬ ((46 = 34 ∧ j = 0)) from by omega)).1⟩⟩
  · show wW (zK sc) zM242 17 [(0, .inr (.inr (.inl (some (34, 0)))))] [.inr (.inr (.inl (some (34, 0))))] _ _ _
    refine ww_go 3 (pc' := 23) (L' := [(0, .inr (.inr (.inl (some (34, 0)))))]) (st' := [.inl 1, .inl 1, .inr (.inr (.inl (some (34, 0))))]) (m' := m0) (o := none) rfl trivial ?_
    refine ww_call (vs := [.inr (.inr (.inl (some (34, 0)))), .inl 1, .inl 1]) (r := []) (p := 0 < 1) rfl rfl rfl rfl (show 0 < 1 from by omega) (zs196 (c := c) (by omega) 1 1 hG (by omega)) ?_
    rintro _ _ m30 ⟨r28, rfl, rfl, hGm30, hEm30, hr29⟩
    have hFm30 : zfr (fun k i j => (k = 34 ∧ j = 0) ∨ (k = 34 ∧ j = 15 ∧ 1 ≤ m0.1 42 0 0 + m0.1 42 0 1) ∨ (k = 34 ∧ j = 16) ∨ (k = 46 ∧ 1 ≤ m0.1 42 0 0 + m0.1 42 0 1) ∨ (k = 49) ∨ (k = 47 ∧ 24 * (m0.1 34 0 16 % 32).toNat ≤ j ∧ j < 24 * (m0.1 34 0 16 % 32).toNat + 24 ∧ 1 ≤ m0.1 42 0 0 + m0.1 42 0 1) ∨ (k = 48 ∧ j = (m0.1 34 0 16 % 32).toNat ∧ 1 ≤ m0.1 42 0 0 + m0.1 42 0 1)) m0 m30 := zfr_tr hF hEm30 (fun k i j z => Or.inl z)
    have w31 : m30.1 34 0 16 = m0.1 34 0 16 := (hEm30 34 0 16 (show ¬ ((34 = 34 ∧ 16 = 0)) from by omega)).1
    have w32 : m30.1 34 0 15 = m0.1 34 0 15 := (hEm30 34 0 15 (show ¬ ((34 = 34 ∧ 15 = 0)) from by omega)).1
    have w33 : m30.1 48 0 ((m0.1 34 0 16 % 32).toNat) = m0.1 48 0 ((m0.1 34 0 16 % 32).toNat) := (hEm30 48 0 ((m0.1 34 0 16 % 32).toNat) (show ¬ ((48 = 34 ∧ ((m0.1 34 0 16 % 32).toNat) = 0)) from by omega)).1
    have w34 : m30.1 49 0 0 = m0.1 49 0 0 := (hEm30 49 0 0 (show ¬ ((49 = 34 ∧ 0 = 0)) from by omega)).1
    have w35 : m30.1 49 0 1 = m0.1 49 0 1 := (hEm30 49 0 1 (show ¬ ((49 = 34 ∧ 1 = 0)) from by omega)).1
    have w36 : m30.1 49 0 2 = m0.1 49 0 2 := (hEm30 49 0 2 (show ¬ ((49 = 34 ∧ 2 = 0)) from by omega)).1
    have w37 : m30.1 49 0 3 = m0.1 49 0 3 := (hEm30 49 0 3 (show ¬ ((49 = 34 ∧ 3 = 0)) from by omega)).1
    have w38 : m30.1 49 0 4 = m0.1 49 0 4 := (hEm30 49 0 4 (show ¬ ((49 = 34 ∧ 4 = 0)) from by omega)).1
    show wW (zK sc) zM242 26 [(0, .inr (.inr (.inl (some (34, 0)))))] [.inl r28] _ _ _
    refine ww_if (t := 31) rfl rfl (by omega) (fun (h39 : r28 = 0) => ?_) (fun (h39 : ¬ (r28 = 0)) => ?_)
    · show wW (zK sc) zM242 31 [(0, .inr (.inr (.inl (some (34, 0)))))] [] _ _ _
      have b40 : 0 ≤ m30.1 34 0 15 ∧ m30.1 34 0 15 ≤ c := hGm30.1 34 _ rfl _ _
      have t41 : (0 ≤ (m30.1 34 0 15) → (m30.1 34 0 15).tmod 4 = (m30.1 34 0 15) % 4) ∧ ((m30.1 34 0 15) < 0 → (m30.1 34 0 15).tmod 4 = -((-((m30.1 34 0 15))) % 4)) := ⟨fun z => Int.tmod_eq_emod_of_nonneg z, fun z => wtmod_neg z⟩
      refine ww_go 5 (pc' := 38) (L' := [(0, .inr (.inr (.inl (some (34, 0)))))]) (st' := [.inl 3, .inl ((m30.1 34 0 15).tmod 4)]) (m' := m30) (o := some ((0 < 1) ∧ (-2147483648 ≤ m30.1 34 0 15 ∧ m30.1 34 0 15 ≤ 2147483647 ∧ 0 < (4 : Int) ∧ (4 : Int) ≤ 2147483647))) rfl (show (0 < 1) ∧ (-2147483648 ≤ m30.1 34 0 15 ∧ m30.1 34 0 15 ≤ 2147483647 ∧ 0 < (4 : Int) ∧ (4 : Int) ≤ 2147483647) from by omega) ?_
      refine ww_ic (t := 55) rfl rfl (by omega) (fun (h42 : (m30.1 34 0 15).tmod 4 ≠ 3) => ?_) (fun (h42 : ¬ ((m30.1 34 0 15).tmod 4 ≠ 3)) => ?_)
      · show wW (zK sc) zM242 55 [(0, .inr (.inr (.inl (some (34, 0)))))] [] _ _ _
        refine ww_go 2 (pc' := 57) (L' := [(1, .inl 1), (0, .inr (.inr (.inl (some (34, 0)))))]) (st' := []) (m' := m30) (o := none) rfl trivial ?_
        refine ww_sub (L := [(0, .inr (.inr (.inl (some (34, 0))))), (1, .inl 1)]) ⟨rfl, rfl, trivial⟩ rfl rfl ?_
        exact (zs242_l57 hc hG hr9 _) 1 m30 rfl (zB_mono hGm30 (by omega)) hFm30 (by omega) (by omega) (by omega) (by omega) (by have y0m30 := (hEm30 46 0 (1 : Int).toNat (show ¬ ((46 = 34 ∧ ((1 : Int).toNat) = 0)) from by omega)).1; have y1m30 := (hEm30 46 0 (1 - (1 : Int)).toNat (show ¬ ((46 = 34 ∧ ((1 - (1 : Int)).toNat) = 0)) from by omega)).1; omega)
      · show wW (zK sc) zM242 41 [(0, .inr (.inr (.inl (some (34, 0)))))] [] _ _ _
        refine ww_go 3 (pc' := 44) (L' := [(0, .inr (.inr (.inl (some (34, 0)))))]) (st' := [.inl ((-1)), .inl 0, .inr (.inr (.inl (some (34, 0))))]) (m' := m30) (o := none) rfl trivial ?_
        refine ww_call (vs := [.inr (.inr (.inl (some (34, 0)))), .inl 0, .inl ((-1))]) (r := []) (p := 0 < 1) rfl rfl rfl rfl (show 0 < 1 from by omega) (zs220 (c := c) (by omega) 0 ((-1)) hGm30 (by omega)) ?_
        rintro _ _ m45 ⟨r43, rfl, rfl, hGm45, hEm45, hr44⟩
        have hFm45 : zfr (fun k i j => (k = 34 ∧ j = 0) ∨ (k = 34 ∧ j = 15 ∧ 1 ≤ m0.1 42 0 0 + m0.1 42 0 1) ∨ (k = 34 ∧ j = 16) ∨ (k = 46 ∧ 1 ≤ m0.1 42 0 0 + m0.1 42 0 1) ∨ (k = 49) ∨ (k = 47 ∧ 24 * (m0.1 34 0 16 % 32).toNat ≤ j ∧ j < 24 * (m0.1 34 0 16 % 32).toNat + 24 ∧ 1 ≤ m0.1 42 0 0 + m0.1 42 0 1) ∨ (k = 48 ∧ j = (m0.1 34 0 16 % 32).toNat ∧ 1 ≤ m0.1 42 0 0 + m0.1 42 0 1)) m0 m45 := zfr_tr hFm30 hEm45 (fun k i j z => Or.inr (Or.inr (Or.inr (Or.inr (Or.inl z)))))
        have w46 : m45.1 34 0 0 = m30.1 34 0 0 := (hEm45 34 0 0 (show ¬ ((34 = 49)) from by omega)).1
        have w47 : m45.1 34 0 16 = m30.1 34 0 16 := (hEm45 34 0 16 (show ¬ ((34 = 49)) from by omega)).1
        have w48 : m45.1 34 0 15 = m30.1 34 0 15 := (hEm45 34 0 15 (show ¬ ((34 = 49)) from by omega)).1
        have w49 : m45.1 48 0 ((m0.1 34 0 16 % 32).toNat) = m30.1 48 0 ((m0.1 34 0 16 % 32).toNat) := (hEm45 48 0 ((m0.1 34 0 16 % 32).toNat) (show ¬ ((48 = 49)) from by omega)).1
        show wW (zK sc) zM242 47 [(0, .inr (.inr (.inl (some (34, 0)))))] [.inl r43] _ _ _
        have zo50 : zRO m30 0 = zRO m0 0 := zRO_fr hFm30 (fun f => (show ¬ ((42 = 34 ∧ f = 0) ∨ (42 = 34 ∧ f = 15 ∧ 1 ≤ m0.1 42 0 0 + m0.1 42 0 1) ∨ (42 = 34 ∧ f = 16) ∨ (42 = 46 ∧ 1 ≤ m0.1 42 0 0 + m0.1 42 0 1) ∨ (42 = 49) ∨ (42 = 47 ∧ 24 * (m0.1 34 0 16 % 32).toNat ≤ f ∧ f < 24 * (m0.1 34 0 16 % 32).toNat + 24 ∧ 1 ≤ m0.1 42 0 0 + m0.1 42 0 1) ∨ (42 = 48 ∧ f = (m0.1 34 0 16 % 32).toNat ∧ 1 ≤ m0.1 42 0 0 + m0.1 42 0 1)) from by omega)) (fun t => (show ¬ ((43 = 34 ∧ t = 0) ∨ (43 = 34 ∧ t = 15 ∧ 1 ≤ m0.1 42 0 0 + m0.1 42 0 1) ∨ (43 = 34 ∧ t = 16) ∨ (43 = 46 ∧ 1 ≤ m0.1 42 0 0 + m0.1 42 0 1) ∨ (43 = 49) ∨ (43 = 47 ∧ 24 * (m0.1 34 0 16 % 32).toNat ≤ t ∧ t < 24 * (m0.1 34 0 16 % 32).toNat + 24 ∧ 1 ≤ m0.1 42 0 0 + m0.1 42 0 1) ∨ (43 = 48 ∧ t = (m0.1 34 0 16 % 32).toNat ∧ 1 ≤ m0.1 42 0 0 + m0.1 42 0 1)) from by omega)) (fun t => (show ¬ ((44 = 34 ∧ t = 0) ∨ (44 = 34 ∧ t = 15 ∧ 1 ≤ m0.1 42 0 0 + m0.1 42 0 1) ∨ (44 = 34 ∧ t = 16) ∨ (44 = 46 ∧ 1 ≤ m0.1 42 0 0 + m0.1 42 0 1) ∨ (44 = 49) ∨ (44 = 47 ∧ 24 * (m0.1 34 0 16 % 32).toNat ≤ t ∧ t < 24 * (m0.1 34 0 16 % 32).toNat + 24 ∧ 1 ≤ m0.1 42 0 0 + m0.1 42 0 1) ∨ (44 = 48 ∧ t = (m0.1 34 0 16 % 32).toNat ∧ 1 ≤ m0.1 42 0 0 + m0.1 42 0 1)) from by omega)) 0
        refine ww_go 1 (pc' := 48) (L' := [(0, .inr (.inr (.inl (some (34, 0)))))]) (st' := [.inl ((-1)), .inl r43]) (m' := m45) (o := none) rfl trivial ?_
        refine ww_ic (t := 55) rfl rfl (by omega) (fun (h51 : (-1) ≤ r43) => ?_) (fun (h51 : ¬ ((-1) ≤ r43)) => ?_)
        · show wW (zK sc) zM242 55 [(0, .inr (.inr (.inl (some (34, 0)))))] [] _ _ _
          refine ww_go 2 (pc' := 57) (L' := [(1, .inl 1), (0, .inr (.inr (.inl (some (34, 0)))))]) (st' := []) (m' := m45) (o := none) rfl trivial ?_
          refine ww_sub (L := [(0, .inr (.inr (.inl (some (34, 0))))), (1, .inl 1)]) ⟨rfl, rfl, trivial⟩ rfl rfl ?_
          exact (zs242_l57 hc hG hr9 _) 1 m45 rfl (zB_mono hGm45 (by omega)) hFm45 (by omega) (by omega) (by omega) (by omega) (by have y0m30 := (hEm30 46 0 (1 : Int).toNat (show ¬ ((46 = 34 ∧ ((1 : Int).toNat) = 0)) from by omega)).1; have y1m30 := (hEm30 46 0 (1 - (1 : Int)).toNat (show ¬ ((46 = 34 ∧ ((1 - (1 : Int)).toNat) = 0)) from by omega)).1; have y0m45 := (hEm45 46 0 (1 : Int).toNat (show ¬ ((46 = 49)) from by omega)).1; have y1m45 := (hEm45 46 0 (1 - (1 : Int)).toNat (show ¬ ((46 = 49)) from by omega)).1; omega)
        · show wW (zK sc) zM242 51 [(0, .inr (.inr (.inl (some (34, 0)))))] [] _ _ _
          refine ww_go 3 (pc' := 57) (L' := [(1, .inl 0), (0, .inr (.inr (.inl (some (34, 0)))))]) (st' := []) (m' := m45) (o := none) rfl trivial ?_
          refine ww_sub (L := [(0, .inr (.inr (.inl (some (34, 0))))), (1, .inl 0)]) ⟨rfl, rfl, trivial⟩ rfl rfl ?_
          exact (zs242_l57 hc hG hr9 _) 0 m45 rfl (zB_mono hGm45 (by omega)) hFm45 (by omega) (by omega) (by omega) (by omega) (by have y0m30 := (hEm30 46 0 (0 : Int).toNat (show ¬ ((46 = 34 ∧ ((0 : Int).toNat) = 0)) from by omega)).1; have y1m30 := (hEm30 46 0 (1 - (0 : Int)).toNat (show ¬ ((46 = 34 ∧ ((1 - (0 : Int)).toNat) = 0)) from by omega)).1; have y0m45 := (hEm45 46 0 (0 : Int).toNat (show ¬ ((46 = 49)) from by omega)).1; have y1m45 := (hEm45 46 0 (1 - (0 : Int)).toNat (show ¬ ((46 = 49)) from by omega)).1; omega)
    · show wW (zK sc) zM242 29 [(0, .inr (.inr (.inl (some (34, 0)))))] [] _ _ _
      refine ww_go 1 (pc' := 30) (L' := [(0, .inr (.inr (.inl (some (34, 0)))))]) (st' := [.inl 0]) (m' := m30) (o := none) rfl trivial ?_
      exact ww_rI rfl rfl ⟨_, rfl, rfl, zB_mono hGm30 (by omega), hFm30, Or.inl ⟨by omega, by omega, by omega, by omega, by omega, funext fun j => (hEm30 46 0 j (show ¬ ((46 = 34 ∧ j = 0)) from by omega)).1⟩⟩
set_option maxRecDepth 8000 in
theorem zs231_l4 {sc : xSc} {n : Nat × Nat} {m : wm} {c : Int} (hc : 0 ≤ c ∧ c ≤ 1000000) (f : Int) (x : Int) (hG : zB c m) (h0 : 0 ≤ f ∧ f ≤ 1 ∧ -2147483648 ≤ x ∧ x ≤ 2147483647) : ∀ (d : Nat), ∀ (k : Int), (8 - k).toNat = d → (4 * f ≤ k ∧ k ≤ 4 * f + 4) →  wW (zK sc) zM231 4 [(0, .inr (.inr (.inl (some (34, 0))))), (1, .inl f), (2, .inl x), (3, .inl k)] [] n m (wr (fun vv n1 m1 => ∃ r : Int, vv = some (.inl r) ∧ n = n1 ∧ m = m1 ∧ (r = -1 ∨ (4 * f ≤ r ∧ r ≤ 4 * f + 3 ∧ m.1 50 0 r.toNat = x)))) := by
  intro d
  induction d using Nat.strongRecOn with
  | ind d ih =>
    intro k hd hi
    refine ww_go 6 (pc' := 10) (L' := [(0, .inr (.inr (.inl (some (34, 0))))), (1, .inl f), (2, .inl x), (3, .inl k)]) (st' := [.inl ((4 * f) + 4), .inl k]) (m' := m) (o := none) rfl trivial ?_
    refine ww_ic (t := 31) rfl rfl (by omega) (fun (h1 : (4 * f) + 4 ≤ k) => ?_) (fun (h1 : ¬ ((4 * f) + 4 ≤ k)) => ?_)
    · show wW (zK sc) zM231 31 [(0, .inr (.inr (.inl (some (34, 0))))), (1, .inl f), (2, .inl x), (3, .inl k)] [] _ _ _
      refine ww_go 1 (pc' := 32) (L' := [(0, .inr (.inr (.inl (some (34, 0))))), (1, .inl f), (2, .inl x), (3, .inl k)]) (st' := [.inl ((-1))]) (m' := m) (o := none) rfl trivial ?_
      exact ww_rI rfl rfl ⟨_, rfl, rfl, rfl, by omega⟩
    · show wW (zK sc) zM231 13 [(0, .inr (.inr (.inl (some (34, 0))))), (1, .inl f), (2, .inl x), (3, .inl k)] [] _ _ _
      have b2 : 0 ≤ m.1 50 0 k.toNat ∧ m.1 50 0 k.toNat ≤ 65535 := hG.1 50 _ rfl _ _
      refine ww_go 5 (pc' := 20) (L' := [(0, .inr (.inr (.inl (some (34, 0))))), (1, .inl f), (2, .inl x), (3, .inl k)]) (st' := [.inl x, .inl (m.1 50 0 k.toNat)]) (m' := m) (o := some ((0 < 1) ∧ (0 < 1 ∧ 0 ≤ k ∧ k < ((8 : Nat) : Int)))) rfl (show (0 < 1) ∧ (0 < 1 ∧ 0 ≤ k ∧ k < ((8 : Nat) : Int)) from by omega) ?_
      refine ww_ic (t := 25) rfl rfl (by omega) (fun (h3 : m.1 50 0 k.toNat ≠ x) => ?_) (fun (h3 : ¬ (m.1 50 0 k.toNat ≠ x)) => ?_)
      · show wW (zK sc) zM231 25 [(0, .inr (.inr (.inl (some (34, 0))))), (1, .inl f), (2, .inl x), (3, .inl k)] [] _ _ _
        refine ww_go 2 (pc' := 4) (L' := [(3, .inl (k + 1)), (0, .inr (.inr (.inl (some (34, 0))))), (1, .inl f), (2, .inl x)]) (st' := []) (m' := m) (o := none) rfl trivial ?_
        refine ww_sub (L := [(0, .inr (.inr (.inl (some (34, 0))))), (1, .inl f), (2, .inl x), (3, .inl (k + 1))]) ⟨rfl, rfl, rfl, rfl, trivial⟩ rfl rfl ?_
        exact (ih _ (by omega)) (k + 1) rfl (by omega)
      · show wW (zK sc) zM231 23 [(0, .inr (.inr (.inl (some (34, 0))))), (1, .inl f), (2, .inl x), (3, .inl k)] [] _ _ _
        refine ww_go 1 (pc' := 24) (L' := [(0, .inr (.inr (.inl (some (34, 0))))), (1, .inl f), (2, .inl x), (3, .inl k)]) (st' := [.inl k]) (m' := m) (o := none) rfl trivial ?_
        exact ww_rI rfl rfl ⟨_, rfl, rfl, rfl, by omega⟩
set_option maxRecDepth 8000 in
/-- Mo.placeOf -/
theorem zs231 {sc : xSc} {n : Nat × Nat} {m : wm} {c : Int} (hc : 0 ≤ c ∧ c ≤ 1000000) (f : Int) (x : Int) (hG : zB c m) (h0 : 0 ≤ f ∧ f ≤ 1 ∧ -2147483648 ≤ x ∧ x ≤ 2147483647) : wX (zK sc) 231 [.inr (.inr (.inl (some (34, 0)))), .inl f, .inl x] n m (wr (fun vv n1 m1 => ∃ r : Int, vv = some (.inl r) ∧ n = n1 ∧ m = m1 ∧ (r = -1 ∨ (4 * f ≤ r ∧ r ≤ 4 * f + 3 ∧ m.1 50 0 r.toNat = x)))) := by
  refine wX_of (N := zM231) rfl (Nat.le_of_ble_eq_true rfl) ?_
  show wW (zK sc) zM231 0 [(0, .inr (.inr (.inl (some (34, 0))))), (1, .inl f), (2, .inl x)] [] n m _
  refine ww_go 4 (pc' := 4) (L' := [(3, .inl (4 * f)), (0, .inr (.inr (.inl (some (34, 0))))), (1, .inl f), (2, .inl x)]) (st' := []) (m' := m) (o := none) rfl trivial ?_
  refine ww_sub (L := [(0, .inr (.inr (.inl (some (34, 0))))), (1, .inl f), (2, .inl x), (3, .inl (4 * f))]) ⟨rfl, rfl, rfl, rfl, trivial⟩ rfl rfl ?_
  exact (zs231_l4 hc f x hG h0 _) (4 * f) rfl (by omega)
set_option maxRecDepth 8000 in
theorem zs247_l56 {sc : xSc} {n : Nat × Nat} {m : wm} {c : Int} (hc : 0 ≤ c ∧ c ≤ 1000000) (q : Int) (b : Int) (x : Int) (hG : zB c m) (h0 : -2147483648 ≤ q ∧ q ≤ 2147483647 ∧ -2147483648 ≤ b ∧ b ≤ 2147483647 ∧ -2147483648 ≤ x ∧ x ≤ 2147483647) : ∀ (d : Nat), (∀ (y : Int) (u : Int), (2147483647 - u).toNat * 100 + 99 = d → (0 ≤ y ∧ y ≤ 24 ∧ 0 ≤ u ∧ u ≤ 2147483647) →  wW (zK sc) zM247 56 [(0, .inr (.inr (.inl (some (34, 0))))), (1, .inl q), (2, .inl b), (3, .inl x), (4, .inl y), (5, .inl u)] [] n m (wr (fun vv n1 m1 => ∃ r : Int, vv = some (.inl r) ∧ n = n1 ∧ m = m1 ∧ (-1 ≤ r ∧ r ≤ 2147483647)))) ∧ (∀ (y : Int) (u : Int) (w : Int) (k : Int) (i : Int), (2147483647 - u).toNat * 100 + (24 - i).toNat = d → (0 ≤ y ∧ y ≤ 24 ∧ 0 ≤ u ∧ u ≤ 2147483646 ∧ -2147483648 ≤ w ∧ w ≤ 2147483647 ∧ 0 ≤ k ∧ k ≤ i ∧ 0 ≤ i ∧ i ≤ 24) →  wW (zK sc) zM247 74 [(0, .inr (.inr (.inl (some (34, 0))))), (1, .inl q), (2, .inl b), (3, .inl x), (4, .inl y), (5, .inl u), (6, .inl w), (7, .inl k), (8, .inl i)] [] n m (wr (fun vv n1 m1 => ∃ r : Int, vv = some (.inl r) ∧ n = n1 ∧ m = m1 ∧ (-1 ≤ r ∧ r ≤ 2147483647)))) := by
  intro d
  induction d using Nat.strongRecOn with
  | ind d ih =>
    refine ⟨?_, ?_⟩
    · intro y u hd hi
      have t1 := wshl_rg 1 y
      have t2 : 0 ≤ y ∧ y ≤ 30 → 1 ≤ wshl 1 y := wshl1_rg
      refine ww_go 4 (pc' := 62) (L' := [(0, .inr (.inr (.inl (some (34, 0))))), (1, .inl q), (2, .inl b), (3, .inl x), (4, .inl y), (5, .inl u)]) (st' := [.inl (wshl 1 y), .inl u]) (m' := m) (o := none) rfl trivial ?_
      refine ww_ic (t := 160) rfl rfl (by omega) (fun (h3 : wshl 1 y ≤ u) => ?_) (fun (h3 : ¬ (wshl 1 y ≤ u)) => ?_)
      · show wW (zK sc) zM247 160 [(0, .inr (.inr (.inl (some (34, 0))))), (1, .inl q), (2, .inl b), (3, .inl x), (4, .inl y), (5, .inl u)] [] _ _ _
        refine ww_go 1 (pc' := 161) (L' := [(0, .inr (.inr (.inl (some (34, 0))))), (1, .inl q), (2, .inl b), (3, .inl x), (4, .inl y), (5, .inl u)]) (st' := [.inl ((-1))]) (m' := m) (o := none) rfl trivial ?_
        exact ww_rI rfl rfl ⟨_, rfl, rfl, rfl, by omega⟩
      · show wW (zK sc) zM247 65 [(0, .inr (.inr (.inl (some (34, 0))))), (1, .inl q), (2, .inl b), (3, .inl x), (4, .inl y), (5, .inl u)] [] _ _ _
        refine ww_go 6 (pc' := 74) (L' := [(8, .inl 0), (7, .inl 0), (6, .inl 0), (0, .inr (.inr (.inl (some (34, 0))))), (1, .inl q), (2, .inl b), (3, .inl x), (4, .inl y), (5, .inl u)]) (st' := []) (m' := m) (o := none) rfl trivial ?_
        refine ww_sub (L := [(0, .inr (.inr (.inl (some (34, 0))))), (1, .inl q), (2, .inl b), (3, .inl x), (4, .inl y), (5, .inl u), (6, .inl 0), (7, .inl 0), (8, .inl 0)]) ⟨rfl, rfl, rfl, rfl, rfl, rfl, rfl, rfl, rfl, trivial⟩ rfl rfl ?_
        exact (ih _ (by omega)).2 y u 0 0 0 rfl (by omega)
    · intro y u w k i hd hi
      have b1 : 0 ≤ m.1 34 0 30 ∧ m.1 34 0 30 ≤ 24 := hG.1 34 _ rfl _ _
      refine ww_go 3 (pc' := 80) (L' := [(0, .inr (.inr (.inl (some (34, 0))))), (1, .inl q), (2, .inl b), (3, .inl x), (4, .inl y), (5, .inl u), (6, .inl w), (7, .inl k), (8, .inl i)]) (st' := [.inl (m.1 34 0 30), .inl i]) (m' := m) (o := some ((0 < 1))) rfl (show (0 < 1) from by omega) ?_
      refine ww_ic (t := 145) rfl rfl (by omega) (fun (h2 : m.1 34 0 30 ≤ i) => ?_) (fun (h2 : ¬ (m.1 34 0 30 ≤ i)) => ?_)
      · show wW (zK sc) zM247 145 [(0, .inr (.inr (.inl (some (34, 0))))), (1, .inl q), (2, .inl b), (3, .inl x), (4, .inl y), (5, .inl u), (6, .inl w), (7, .inl k), (8, .inl i)] [] _ _ _
        refine ww_go 2 (pc' := 148) (L' := [(0, .inr (.inr (.inl (some (34, 0))))), (1, .inl q), (2, .inl b), (3, .inl x), (4, .inl y), (5, .inl u), (6, .inl w), (7, .inl k), (8, .inl i)]) (st' := [.inl x, .inl w]) (m' := m) (o := none) rfl trivial ?_
        refine ww_ic (t := 154) rfl rfl (by omega) (fun (h3 : w ≠ x) => ?_) (fun (h3 : ¬ (w ≠ x)) => ?_)
        · show wW (zK sc) zM247 154 [(0, .inr (.inr (.inl (some (34, 0))))), (1, .inl q), (2, .inl b), (3, .inl x), (4, .inl y), (5, .inl u), (6, .inl w), (7, .inl k), (8, .inl i)] [] _ _ _
          refine ww_go 2 (pc' := 56) (L' := [(5, .inl (u + 1)), (0, .inr (.inr (.inl (some (34, 0))))), (1, .inl q), (2, .inl b), (3, .inl x), (4, .inl y), (6, .inl w), (7, .inl k), (8, .inl i)]) (st' := []) (m' := m) (o := none) rfl trivial ?_
          refine ww_sub (L := [(0, .inr (.inr (.inl (some (34, 0))))), (1, .inl q), (2, .inl b), (3, .inl x), (4, .inl y), (5, .inl (u + 1))]) ⟨rfl, rfl, rfl, rfl, rfl, rfl, trivial⟩ rfl rfl ?_
          exact (ih _ (by omega)).1 y (u + 1) rfl (by omega)
        · show wW (zK sc) zM247 151 [(0, .inr (.inr (.inl (some (34, 0))))), (1, .inl q), (2, .inl b), (3, .inl x), (4, .inl y), (5, .inl u), (6, .inl w), (7, .inl k), (8, .inl i)] [] _ _ _
          refine ww_go 1 (pc' := 153) (L' := [(0, .inr (.inr (.inl (some (34, 0))))), (1, .inl q), (2, .inl b), (3, .inl x), (4, .inl y), (5, .inl u), (6, .inl w), (7, .inl k), (8, .inl i)]) (st' := [.inl u]) (m' := m) (o := none) rfl trivial ?_
          exact ww_rI rfl rfl ⟨_, rfl, rfl, rfl, by omega⟩
      · show wW (zK sc) zM247 83 [(0, .inr (.inr (.inl (some (34, 0))))), (1, .inl q), (2, .inl b), (3, .inl x), (4, .inl y), (5, .inl u), (6, .inl w), (7, .inl k), (8, .inl i)] [] _ _ _
        have b4 : 0 ≤ m.1 58 0 i.toNat ∧ m.1 58 0 i.toNat ≤ 55 := hG.1 58 _ rfl _ _
        refine ww_go 5 (pc' := 91) (L' := [(0, .inr (.inr (.inl (some (34, 0))))), (1, .inl q), (2, .inl b), (3, .inl x), (4, .inl y), (5, .inl u), (6, .inl w), (7, .inl k), (8, .inl i)]) (st' := [.inl q, .inl (m.1 58 0 i.toNat)]) (m' := m) (o := some ((0 < 1) ∧ (0 < 1 ∧ 0 ≤ i ∧ i < ((24 : Nat) : Int)))) rfl (show (0 < 1) ∧ (0 < 1 ∧ 0 ≤ i ∧ i < ((24 : Nat) : Int)) from by omega) ?_
        refine ww_ic (t := 139) rfl rfl (by omega) (fun (h5 : m.1 58 0 i.toNat ≠ q) => ?_) (fun (h5 : ¬ (m.1 58 0 i.toNat ≠ q)) => ?_)
        · show wW (zK sc) zM247 139 [(0, .inr (.inr (.inl (some (34, 0))))), (1, .inl q), (2, .inl b), (3, .inl x), (4, .inl y), (5, .inl u), (6, .inl w), (7, .inl k), (8, .inl i)] [] _ _ _
          refine ww_go 2 (pc' := 74) (L' := [(8, .inl (i + 1)), (0, .inr (.inr (.inl (some (34, 0))))), (1, .inl q), (2, .inl b), (3, .inl x), (4, .inl y), (5, .inl u), (6, .inl w), (7, .inl k)]) (st' := []) (m' := m) (o := none) rfl trivial ?_
          refine ww_sub (L := [(0, .inr (.inr (.inl (some (34, 0))))), (1, .inl q), (2, .inl b), (3, .inl x), (4, .inl y), (5, .inl u), (6, .inl w), (7, .inl k), (8, .inl (i + 1))]) ⟨rfl, rfl, rfl, rfl, rfl, rfl, rfl, rfl, rfl, trivial⟩ rfl rfl ?_
          exact (ih _ (by omega)).2 y u w k (i + 1) rfl (by omega)
        · show wW (zK sc) zM247 94 [(0, .inr (.inr (.inl (some (34, 0))))), (1, .inl q), (2, .inl b), (3, .inl x), (4, .inl y), (5, .inl u), (6, .inl w), (7, .inl k), (8, .inl i)] [] _ _ _
          have b6 : 0 ≤ m.1 59 0 i.toNat ∧ m.1 59 0 i.toNat ≤ 1 := hG.1 59 _ rfl _ _
          refine ww_go 5 (pc' := 102) (L' := [(0, .inr (.inr (.inl (some (34, 0))))), (1, .inl q), (2, .inl b), (3, .inl x), (4, .inl y), (5, .inl u), (6, .inl w), (7, .inl k), (8, .inl i)]) (st' := [.inl b, .inl (m.1 59 0 i.toNat)]) (m' := m) (o := some ((0 < 1) ∧ (0 < 1 ∧ 0 ≤ i ∧ i < ((24 : Nat) : Int)))) rfl (show (0 < 1) ∧ (0 < 1 ∧ 0 ≤ i ∧ i < ((24 : Nat) : Int)) from by omega) ?_
          refine ww_ic (t := 108) rfl rfl (by omega) (fun (h7 : m.1 59 0 i.toNat = b) => ?_) (fun (h7 : ¬ (m.1 59 0 i.toNat = b)) => ?_)
          · show wW (zK sc) zM247 108 [(0, .inr (.inr (.inl (some (34, 0))))), (1, .inl q), (2, .inl b), (3, .inl x), (4, .inl y), (5, .inl u), (6, .inl w), (7, .inl k), (8, .inl i)] [] _ _ _
            have t8 := wshr_rg u k
            have t9 := wand_rg (wshr u k) 1
            have t10 := wand_m1 (wshr u k)
            refine ww_go 6 (pc' := 116) (L' := [(0, .inr (.inr (.inl (some (34, 0))))), (1, .inl q), (2, .inl b), (3, .inl x), (4, .inl y), (5, .inl u), (6, .inl w), (7, .inl k), (8, .inl i)]) (st' := [.inl 1, .inl (wand (wshr u k) 1)]) (m' := m) (o := none) rfl trivial ?_
            refine ww_ic (t := 132) rfl rfl (by omega) (fun (h11 : wand (wshr u k) 1 ≠ 1) => ?_) (fun (h11 : ¬ (wand (wshr u k) 1 ≠ 1)) => ?_)
            · show wW (zK sc) zM247 132 [(0, .inr (.inr (.inl (some (34, 0))))), (1, .inl q), (2, .inl b), (3, .inl x), (4, .inl y), (5, .inl u), (6, .inl w), (7, .inl k), (8, .inl i)] [] _ _ _
              refine ww_go 5 (pc' := 74) (L' := [(8, .inl (i + 1)), (7, .inl (k + 1)), (6, .inl w), (0, .inr (.inr (.inl (some (34, 0))))), (1, .inl q), (2, .inl b), (3, .inl x), (4, .inl y), (5, .inl u)]) (st' := []) (m' := m) (o := none) rfl trivial ?_
              refine ww_sub (L := [(0, .inr (.inr (.inl (some (34, 0))))), (1, .inl q), (2, .inl b), (3, .inl x), (4, .inl y), (5, .inl u), (6, .inl w), (7, .inl (k + 1)), (8, .inl (i + 1))]) ⟨rfl, rfl, rfl, rfl, rfl, rfl, rfl, rfl, rfl, trivial⟩ rfl rfl ?_
              exact (ih _ (by omega)).2 y u w (k + 1) (i + 1) rfl (by omega)
            · show wW (zK sc) zM247 119 [(0, .inr (.inr (.inl (some (34, 0))))), (1, .inl q), (2, .inl b), (3, .inl x), (4, .inl y), (5, .inl u), (6, .inl w), (7, .inl k), (8, .inl i)] [] _ _ _
              have b12 : (-2147483648) ≤ m.1 60 0 i.toNat ∧ m.1 60 0 i.toNat ≤ 2147483647 := hG.1 60 _ rfl _ _
              have t13 := wxor_rg w (m.1 60 0 i.toNat)
              have t14 : (0 ≤ w ∧ w ≤ 255 ∧ 0 ≤ m.1 60 0 i.toNat ∧ m.1 60 0 i.toNat ≤ 255) → (0 ≤ wxor w (m.1 60 0 i.toNat) ∧ wxor w (m.1 60 0 i.toNat) ≤ 255) := fun z => wxor_255 ⟨z.1, z.2.1⟩ z.2.2
              have t15 : (0 ≤ w ∧ w ≤ 65535 ∧ 0 ≤ m.1 60 0 i.toNat ∧ m.1 60 0 i.toNat ≤ 65535) → (0 ≤ wxor w (m.1 60 0 i.toNat) ∧ wxor w (m.1 60 0 i.toNat) ≤ 65535) := fun z => wxor_65535 ⟨z.1, z.2.1⟩ z.2.2
              have t16 : (0 ≤ w ∧ w ≤ 2147483647 ∧ 0 ≤ m.1 60 0 i.toNat ∧ m.1 60 0 i.toNat ≤ 2147483647) → (0 ≤ wxor w (m.1 60 0 i.toNat) ∧ wxor w (m.1 60 0 i.toNat) ≤ 2147483647) := fun z => wxor_2147483647 ⟨z.1, z.2.1⟩ z.2.2
              refine ww_go 11 (pc' := 74) (L' := [(8, .inl (i + 1)), (7, .inl (k + 1)), (6, .inl (wxor w (m.1 60 0 i.toNat))), (0, .inr (.inr (.inl (some (34, 0))))), (1, .inl q), (2, .inl b), (3, .inl x), (4, .inl y), (5, .inl u)]) (st' := []) (m' := m) (o := some ((0 < 1) ∧ (0 < 1 ∧ 0 ≤ i ∧ i < ((24 : Nat) : Int)))) rfl (show (0 < 1) ∧ (0 < 1 ∧ 0 ≤ i ∧ i < ((24 : Nat) : Int)) from by omega) ?_
              refine ww_sub (L := [(0, .inr (.inr (.inl (some (34, 0))))), (1, .inl q), (2, .inl b), (3, .inl x), (4, .inl y), (5, .inl u), (6, .inl (wxor w (m.1 60 0 i.toNat))), (7, .inl (k + 1)), (8, .inl (i + 1))]) ⟨rfl, rfl, rfl, rfl, rfl, rfl, rfl, rfl, rfl, trivial⟩ rfl rfl ?_
              exact (ih _ (by omega)).2 y u (wxor w (m.1 60 0 i.toNat)) (k + 1) (i + 1) rfl (by omega)
          · show wW (zK sc) zM247 105 [(0, .inr (.inr (.inl (some (34, 0))))), (1, .inl q), (2, .inl b), (3, .inl x), (4, .inl y), (5, .inl u), (6, .inl w), (7, .inl k), (8, .inl i)] [] _ _ _
            refine ww_go 3 (pc' := 74) (L' := [(8, .inl (i + 1)), (0, .inr (.inr (.inl (some (34, 0))))), (1, .inl q), (2, .inl b), (3, .inl x), (4, .inl y), (5, .inl u), (6, .inl w), (7, .inl k)]) (st' := []) (m' := m) (o := none) rfl trivial ?_
            refine ww_sub (L := [(0, .inr (.inr (.inl (some (34, 0))))), (1, .inl q), (2, .inl b), (3, .inl x), (4, .inl y), (5, .inl u), (6, .inl w), (7, .inl k), (8, .inl (i + 1))]) ⟨rfl, rfl, rfl, rfl, rfl, rfl, rfl, rfl, rfl, trivial⟩ rfl rfl ?_
            exact (ih _ (by omega)).2 y u w k (i + 1) rfl (by omega)
set_option maxRecDepth 8000 in
theorem zs247_l6 {sc : xSc} {n : Nat × Nat} {m : wm} {c : Int} (hc : 0 ≤ c ∧ c ≤ 1000000) (q : Int) (b : Int) (x : Int) (hG : zB c m) (h0 : -2147483648 ≤ q ∧ q ≤ 2147483647 ∧ -2147483648 ≤ b ∧ b ≤ 2147483647 ∧ -2147483648 ≤ x ∧ x ≤ 2147483647) : ∀ (d : Nat), ∀ (y : Int) (u : Int), (24 - u).toNat = d → (0 ≤ y ∧ y ≤ u ∧ 0 ≤ u ∧ u ≤ 24) →  wW (zK sc) zM247 6 [(0, .inr (.inr (.inl (some (34, 0))))), (1, .inl q), (2, .inl b), (3, .inl x), (4, .inl y), (5, .inl u)] [] n m (wr (fun vv n1 m1 => ∃ r : Int, vv = some (.inl r) ∧ n = n1 ∧ m = m1 ∧ (-1 ≤ r ∧ r ≤ 2147483647))) := by
  intro d
  induction d using Nat.strongRecOn with
  | ind d ih =>
    intro y u hd hi
    have b1 : 0 ≤ m.1 34 0 30 ∧ m.1 34 0 30 ≤ 24 := hG.1 34 _ rfl _ _
    refine ww_go 3 (pc' := 12) (L' := [(0, .inr (.inr (.inl (some (34, 0))))), (1, .inl q), (2, .inl b), (3, .inl x), (4, .inl y), (5, .inl u)]) (st' := [.inl (m.1 34 0 30), .inl u]) (m' := m) (o := some ((0 < 1))) rfl (show (0 < 1) from by omega) ?_
    refine ww_ic (t := 53) rfl rfl (by omega) (fun (h2 : m.1 34 0 30 ≤ u) => ?_) (fun (h2 : ¬ (m.1 34 0 30 ≤ u)) => ?_)
    · show wW (zK sc) zM247 53 [(0, .inr (.inr (.inl (some (34, 0))))), (1, .inl q), (2, .inl b), (3, .inl x), (4, .inl y), (5, .inl u)] [] _ _ _
      refine ww_go 2 (pc' := 56) (L' := [(5, .inl 0), (0, .inr (.inr (.inl (some (34, 0))))), (1, .inl q), (2, .inl b), (3, .inl x), (4, .inl y)]) (st' := []) (m' := m) (o := none) rfl trivial ?_
      refine ww_sub (L := [(0, .inr (.inr (.inl (some (34, 0))))), (1, .inl q), (2, .inl b), (3, .inl x), (4, .inl y), (5, .inl 0)]) ⟨rfl, rfl, rfl, rfl, rfl, rfl, trivial⟩ rfl rfl ?_
      exact (zs247_l56 hc q b x hG h0 _).1 y 0 rfl (by omega)
    · show wW (zK sc) zM247 15 [(0, .inr (.inr (.inl (some (34, 0))))), (1, .inl q), (2, .inl b), (3, .inl x), (4, .inl y), (5, .inl u)] [] _ _ _
      have b3 : 0 ≤ m.1 58 0 u.toNat ∧ m.1 58 0 u.toNat ≤ 55 := hG.1 58 _ rfl _ _
      refine ww_go 6 (pc' := 25) (L' := [(0, .inr (.inr (.inl (some (34, 0))))), (1, .inl q), (2, .inl b), (3, .inl x), (4, .inl y), (5, .inl u)]) (st' := [.inl q, .inl (m.1 58 0 u.toNat), .inl y]) (m' := m) (o := some ((0 < 1) ∧ (0 < 1 ∧ 0 ≤ u ∧ u < ((24 : Nat) : Int)))) rfl (show (0 < 1) ∧ (0 < 1 ∧ 0 ≤ u ∧ u < ((24 : Nat) : Int)) from by omega) ?_
      refine ww_ic (t := 43) rfl rfl (by omega) (fun (h4 : m.1 58 0 u.toNat ≠ q) => ?_) (fun (h4 : ¬ (m.1 58 0 u.toNat ≠ q)) => ?_)
      · show wW (zK sc) zM247 43 [(0, .inr (.inr (.inl (some (34, 0))))), (1, .inl q), (2, .inl b), (3, .inl x), (4, .inl y), (5, .inl u)] [.inl y] _ _ _
        refine ww_go 5 (pc' := 6) (L' := [(5, .inl (u + 1)), (4, .inl (y + 0)), (0, .inr (.inr (.inl (some (34, 0))))), (1, .inl q), (2, .inl b), (3, .inl x)]) (st' := []) (m' := m) (o := none) rfl trivial ?_
        refine ww_sub (L := [(0, .inr (.inr (.inl (some (34, 0))))), (1, .inl q), (2, .inl b), (3, .inl x), (4, .inl (y + 0)), (5, .inl (u + 1))]) ⟨rfl, rfl, rfl, rfl, rfl, rfl, trivial⟩ rfl rfl ?_
        exact (ih _ (by omega)) (y + 0) (u + 1) rfl (by omega)
      · show wW (zK sc) zM247 28 [(0, .inr (.inr (.inl (some (34, 0))))), (1, .inl q), (2, .inl b), (3, .inl x), (4, .inl y), (5, .inl u)] [.inl y] _ _ _
        have b5 : 0 ≤ m.1 59 0 u.toNat ∧ m.1 59 0 u.toNat ≤ 1 := hG.1 59 _ rfl _ _
        refine ww_go 5 (pc' := 36) (L' := [(0, .inr (.inr (.inl (some (34, 0))))), (1, .inl q), (2, .inl b), (3, .inl x), (4, .inl y), (5, .inl u)]) (st' := [.inl b, .inl (m.1 59 0 u.toNat), .inl y]) (m' := m) (o := some ((0 < 1) ∧ (0 < 1 ∧ 0 ≤ u ∧ u < ((24 : Nat) : Int)))) rfl (show (0 < 1) ∧ (0 < 1 ∧ 0 ≤ u ∧ u < ((24 : Nat) : Int)) from by omega) ?_
        refine ww_ic (t := 43) rfl rfl (by omega) (fun (h6 : m.1 59 0 u.toNat ≠ b) => ?_) (fun (h6 : ¬ (m.1 59 0 u.toNat ≠ b)) => ?_)
        · show wW (zK sc) zM247 43 [(0, .inr (.inr (.inl (some (34, 0))))), (1, .inl q), (2, .inl b), (3, .inl x), (4, .inl y), (5, .inl u)] [.inl y] _ _ _
          refine ww_go 5 (pc' := 6) (L' := [(5, .inl (u + 1)), (4, .inl (y + 0)), (0, .inr (.inr (.inl (some (34, 0))))), (1, .inl q), (2, .inl b), (3, .inl x)]) (st' := []) (m' := m) (o := none) rfl trivial ?_
          refine ww_sub (L := [(0, .inr (.inr (.inl (some (34, 0))))), (1, .inl q), (2, .inl b), (3, .inl x), (4, .inl (y + 0)), (5, .inl (u + 1))]) ⟨rfl, rfl, rfl, rfl, rfl, rfl, trivial⟩ rfl rfl ?_
          exact (ih _ (by omega)) (y + 0) (u + 1) rfl (by omega)
        · show wW (zK sc) zM247 39 [(0, .inr (.inr (.inl (some (34, 0))))), (1, .inl q), (2, .inl b), (3, .inl x), (4, .inl y), (5, .inl u)] [.inl y] _ _ _
          refine ww_go 6 (pc' := 6) (L' := [(5, .inl (u + 1)), (4, .inl (y + 1)), (0, .inr (.inr (.inl (some (34, 0))))), (1, .inl q), (2, .inl b), (3, .inl x)]) (st' := []) (m' := m) (o := none) rfl trivial ?_
          refine ww_sub (L := [(0, .inr (.inr (.inl (some (34, 0))))), (1, .inl q), (2, .inl b), (3, .inl x), (4, .inl (y + 1)), (5, .inl (u + 1))]) ⟨rfl, rfl, rfl, rfl, rfl, rfl, trivial⟩ rfl rfl ?_
          exact (ih _ (by omega)) (y + 1) (u + 1) rfl (by omega)
set_option maxRecDepth 8000 in
/-- Mo.sum -/
theorem zs247 {sc : xSc} {n : Nat × Nat} {m : wm} {c : Int} (hc : 0 ≤ c ∧ c ≤ 1000000) (q : Int) (b : Int) (x : Int) (hG : zB c m) (h0 : -2147483648 ≤ q ∧ q ≤ 2147483647 ∧ -2147483648 ≤ b ∧ b ≤ 2147483647 ∧ -2147483648 ≤ x ∧ x ≤ 2147483647) : wX (zK sc) 247 [.inr (.inr (.inl (some (34, 0)))), .inl q, .inl b, .inl x] n m (wr (fun vv n1 m1 => ∃ r : Int, vv = some (.inl r) ∧ n = n1 ∧ m = m1 ∧ (-1 ≤ r ∧ r ≤ 2147483647))) := by
  refine wX_of (N := zM247) rfl (Nat.le_of_ble_eq_true rfl) ?_
  show wW (zK sc) zM247 0 [(0, .inr (.inr (.inl (some (34, 0))))), (1, .inl q), (2, .inl b), (3, .inl x)] [] n m _
  refine ww_go 4 (pc' := 6) (L' := [(5, .inl 0), (4, .inl 0), (0, .inr (.inr (.inl (some (34, 0))))), (1, .inl q), (2, .inl b), (3, .inl x)]) (st' := []) (m' := m) (o := none) rfl trivial ?_
  refine ww_sub (L := [(0, .inr (.inr (.inl (some (34, 0))))), (1, .inl q), (2, .inl b), (3, .inl x), (4, .inl 0), (5, .inl 0)]) ⟨rfl, rfl, rfl, rfl, rfl, rfl, trivial⟩ rfl rfl ?_
  exact (zs247_l6 hc q b x hG h0 _) 0 0 rfl (by omega)
set_option maxRecDepth 8000 in
theorem zs251_l9 {sc : xSc} {n : Nat × Nat} {m : wm} {c : Int} (hc : 0 ≤ c ∧ c ≤ 1000000) (q : Int) (b : Int) (x : Int) (hG : zB c m) (h0 : -2147483648 ≤ q ∧ q ≤ 2147483647 ∧ -2147483648 ≤ b ∧ b ≤ 2147483647 ∧ -2147483648 ≤ x ∧ x ≤ 2147483647) : ∀ (d : Nat), ∀ (v : Int64) (k : Int) (i : Int), (24 - i).toNat = d → (0 ≤ k ∧ k ≤ i ∧ 0 ≤ i ∧ i ≤ 24) →  wW (zK sc) zM251 9 [(0, .inr (.inr (.inl (some (34, 0))))), (1, .inl q), (2, .inl b), (3, .inl x), (4, .inr (.inl v)), (6, .inl k), (7, .inl i)] [] n m (wr (fun vv n1 m1 => ∃ r : Int64, vv = some (.inr (.inl r)) ∧ n = n1 ∧ m = m1 ∧ True)) := by
  intro d
  induction d using Nat.strongRecOn with
  | ind d ih =>
    intro v k i hd hi
    have b1 : 0 ≤ m.1 34 0 30 ∧ m.1 34 0 30 ≤ 24 := hG.1 34 _ rfl _ _
    refine ww_go 3 (pc' := 15) (L' := [(0, .inr (.inr (.inl (some (34, 0))))), (1, .inl q), (2, .inl b), (3, .inl x), (4, .inr (.inl v)), (6, .inl k), (7, .inl i)]) (st' := [.inl (m.1 34 0 30), .inl i]) (m' := m) (o := some ((0 < 1))) rfl (show (0 < 1) from by omega) ?_
    refine ww_ic (t := 79) rfl rfl (by omega) (fun (h2 : m.1 34 0 30 ≤ i) => ?_) (fun (h2 : ¬ (m.1 34 0 30 ≤ i)) => ?_)
    · show wW (zK sc) zM251 79 [(0, .inr (.inr (.inl (some (34, 0))))), (1, .inl q), (2, .inl b), (3, .inl x), (4, .inr (.inl v)), (6, .inl k), (7, .inl i)] [] _ _ _
      refine ww_go 1 (pc' := 81) (L' := [(0, .inr (.inr (.inl (some (34, 0))))), (1, .inl q), (2, .inl b), (3, .inl x), (4, .inr (.inl v)), (6, .inl k), (7, .inl i)]) (st' := [.inr (.inl v)]) (m' := m) (o := none) rfl trivial ?_
      exact ww_rL rfl rfl ⟨_, rfl, rfl, rfl, by trivial⟩
    · show wW (zK sc) zM251 18 [(0, .inr (.inr (.inl (some (34, 0))))), (1, .inl q), (2, .inl b), (3, .inl x), (4, .inr (.inl v)), (6, .inl k), (7, .inl i)] [] _ _ _
      have b3 : 0 ≤ m.1 58 0 i.toNat ∧ m.1 58 0 i.toNat ≤ 55 := hG.1 58 _ rfl _ _
      refine ww_go 5 (pc' := 26) (L' := [(0, .inr (.inr (.inl (some (34, 0))))), (1, .inl q), (2, .inl b), (3, .inl x), (4, .inr (.inl v)), (6, .inl k), (7, .inl i)]) (st' := [.inl q, .inl (m.1 58 0 i.toNat)]) (m' := m) (o := some ((0 < 1) ∧ (0 < 1 ∧ 0 ≤ i ∧ i < ((24 : Nat) : Int)))) rfl (show (0 < 1) ∧ (0 < 1 ∧ 0 ≤ i ∧ i < ((24 : Nat) : Int)) from by omega) ?_
      refine ww_ic (t := 73) rfl rfl (by omega) (fun (h4 : m.1 58 0 i.toNat ≠ q) => ?_) (fun (h4 : ¬ (m.1 58 0 i.toNat ≠ q)) => ?_)
      · show wW (zK sc) zM251 73 [(0, .inr (.inr (.inl (some (34, 0))))), (1, .inl q), (2, .inl b), (3, .inl x), (4, .inr (.inl v)), (6, .inl k), (7, .inl i)] [] _ _ _
        refine ww_go 2 (pc' := 9) (L' := [(7, .inl (i + 1)), (0, .inr (.inr (.inl (some (34, 0))))), (1, .inl q), (2, .inl b), (3, .inl x), (4, .inr (.inl v)), (6, .inl k)]) (st' := []) (m' := m) (o := none) rfl trivial ?_
        refine ww_sub (L := [(0, .inr (.inr (.inl (some (34, 0))))), (1, .inl q), (2, .inl b), (3, .inl x), (4, .inr (.inl v)), (6, .inl k), (7, .inl (i + 1))]) ⟨rfl, rfl, rfl, rfl, rfl, rfl, rfl, trivial⟩ rfl rfl ?_
        exact (ih _ (by omega)) v k (i + 1) rfl (by omega)
      · show wW (zK sc) zM251 29 [(0, .inr (.inr (.inl (some (34, 0))))), (1, .inl q), (2, .inl b), (3, .inl x), (4, .inr (.inl v)), (6, .inl k), (7, .inl i)] [] _ _ _
        have b5 : 0 ≤ m.1 59 0 i.toNat ∧ m.1 59 0 i.toNat ≤ 1 := hG.1 59 _ rfl _ _
        refine ww_go 5 (pc' := 37) (L' := [(0, .inr (.inr (.inl (some (34, 0))))), (1, .inl q), (2, .inl b), (3, .inl x), (4, .inr (.inl v)), (6, .inl k), (7, .inl i)]) (st' := [.inl b, .inl (m.1 59 0 i.toNat)]) (m' := m) (o := some ((0 < 1) ∧ (0 < 1 ∧ 0 ≤ i ∧ i < ((24 : Nat) : Int)))) rfl (show (0 < 1) ∧ (0 < 1 ∧ 0 ≤ i ∧ i < ((24 : Nat) : Int)) from by omega) ?_
        refine ww_ic (t := 43) rfl rfl (by omega) (fun (h6 : m.1 59 0 i.toNat = b) => ?_) (fun (h6 : ¬ (m.1 59 0 i.toNat = b)) => ?_)
        · show wW (zK sc) zM251 43 [(0, .inr (.inr (.inl (some (34, 0))))), (1, .inl q), (2, .inl b), (3, .inl x), (4, .inr (.inl v)), (6, .inl k), (7, .inl i)] [] _ _ _
          have t7 := wshr_rg x k
          have t8 := wand_rg (wshr x k) 1
          have t9 := wand_m1 (wshr x k)
          refine ww_go 6 (pc' := 50) (L' := [(0, .inr (.inr (.inl (some (34, 0))))), (1, .inl q), (2, .inl b), (3, .inl x), (4, .inr (.inl v)), (6, .inl k), (7, .inl i)]) (st' := [.inl 1, .inl (wand (wshr x k) 1)]) (m' := m) (o := none) rfl trivial ?_
          refine ww_ic (t := 66) rfl rfl (by omega) (fun (h10 : wand (wshr x k) 1 ≠ 1) => ?_) (fun (h10 : ¬ (wand (wshr x k) 1 ≠ 1)) => ?_)
          · show wW (zK sc) zM251 66 [(0, .inr (.inr (.inl (some (34, 0))))), (1, .inl q), (2, .inl b), (3, .inl x), (4, .inr (.inl v)), (6, .inl k), (7, .inl i)] [] _ _ _
            refine ww_go 5 (pc' := 9) (L' := [(7, .inl (i + 1)), (6, .inl (k + 1)), (4, .inr (.inl v)), (0, .inr (.inr (.inl (some (34, 0))))), (1, .inl q), (2, .inl b), (3, .inl x)]) (st' := []) (m' := m) (o := none) rfl trivial ?_
            refine ww_sub (L := [(0, .inr (.inr (.inl (some (34, 0))))), (1, .inl q), (2, .inl b), (3, .inl x), (4, .inr (.inl v)), (6, .inl (k + 1)), (7, .inl (i + 1))]) ⟨rfl, rfl, rfl, rfl, rfl, rfl, rfl, trivial⟩ rfl rfl ?_
            exact (ih _ (by omega)) v (k + 1) (i + 1) rfl (by omega)
          · show wW (zK sc) zM251 53 [(0, .inr (.inr (.inl (some (34, 0))))), (1, .inl q), (2, .inl b), (3, .inl x), (4, .inr (.inl v)), (6, .inl k), (7, .inl i)] [] _ _ _
            refine ww_go 11 (pc' := 9) (L' := [(7, .inl (i + 1)), (6, .inl (k + 1)), (4, .inr (.inl (v ^^^ (m.2.1 61 0 i.toNat)))), (0, .inr (.inr (.inl (some (34, 0))))), (1, .inl q), (2, .inl b), (3, .inl x)]) (st' := []) (m' := m) (o := some ((0 < 1) ∧ (0 < 1 ∧ 0 ≤ i ∧ i < ((24 : Nat) : Int)))) rfl (show (0 < 1) ∧ (0 < 1 ∧ 0 ≤ i ∧ i < ((24 : Nat) : Int)) from by omega) ?_
            refine ww_sub (L := [(0, .inr (.inr (.inl (some (34, 0))))), (1, .inl q), (2, .inl b), (3, .inl x), (4, .inr (.inl (v ^^^ (m.2.1 61 0 i.toNat)))), (6, .inl (k + 1)), (7, .inl (i + 1))]) ⟨rfl, rfl, rfl, rfl, rfl, rfl, rfl, trivial⟩ rfl rfl ?_
            exact (ih _ (by omega)) (v ^^^ (m.2.1 61 0 i.toNat)) (k + 1) (i + 1) rfl (by omega)
        · show wW (zK sc) zM251 40 [(0, .inr (.inr (.inl (some (34, 0))))), (1, .inl q), (2, .inl b), (3, .inl x), (4, .inr (.inl v)), (6, .inl k), (7, .inl i)] [] _ _ _
          refine ww_go 3 (pc' := 9) (L' := [(7, .inl (i + 1)), (0, .inr (.inr (.inl (some (34, 0))))), (1, .inl q), (2, .inl b), (3, .inl x), (4, .inr (.inl v)), (6, .inl k)]) (st' := []) (m' := m) (o := none) rfl trivial ?_
          refine ww_sub (L := [(0, .inr (.inr (.inl (some (34, 0))))), (1, .inl q), (2, .inl b), (3, .inl x), (4, .inr (.inl v)), (6, .inl k), (7, .inl (i + 1))]) ⟨rfl, rfl, rfl, rfl, rfl, rfl, rfl, trivial⟩ rfl rfl ?_
          exact (ih _ (by omega)) v k (i + 1) rfl (by omega)
set_option maxRecDepth 8000 in
/-- Mo.together -/
theorem zs251 {sc : xSc} {n : Nat × Nat} {m : wm} {c : Int} (hc : 0 ≤ c ∧ c ≤ 1000000) (q : Int) (b : Int) (x : Int) (hG : zB c m) (h0 : -2147483648 ≤ q ∧ q ≤ 2147483647 ∧ -2147483648 ≤ b ∧ b ≤ 2147483647 ∧ -2147483648 ≤ x ∧ x ≤ 2147483647) : wX (zK sc) 251 [.inr (.inr (.inl (some (34, 0)))), .inl q, .inl b, .inl x] n m (wr (fun vv n1 m1 => ∃ r : Int64, vv = some (.inr (.inl r)) ∧ n = n1 ∧ m = m1 ∧ True)) := by
  refine wX_of (N := zM251) rfl (Nat.le_of_ble_eq_true rfl) ?_
  show wW (zK sc) zM251 0 [(0, .inr (.inr (.inl (some (34, 0))))), (1, .inl q), (2, .inl b), (3, .inl x)] [] n m _
  refine ww_go 6 (pc' := 9) (L' := [(7, .inl 0), (6, .inl 0), (4, .inr (.inl (Int64.ofNat 0))), (0, .inr (.inr (.inl (some (34, 0))))), (1, .inl q), (2, .inl b), (3, .inl x)]) (st' := []) (m' := m) (o := none) rfl trivial ?_
  refine ww_sub (L := [(0, .inr (.inr (.inl (some (34, 0))))), (1, .inl q), (2, .inl b), (3, .inl x), (4, .inr (.inl (Int64.ofNat 0))), (6, .inl 0), (7, .inl 0)]) ⟨rfl, rfl, rfl, rfl, rfl, rfl, rfl, trivial⟩ rfl rfl ?_
  exact (zs251_l9 hc q b x hG h0 _) (Int64.ofNat 0) 0 0 rfl (by omega)
set_option maxRecDepth 8000 in
theorem zs240_l5 {sc : xSc} {n : Nat × Nat} {m : wm} {c : Int} (hc : 0 ≤ c ∧ c ≤ 1000000) (q : Int) (b : Int) (hG : zB c m) (h0 : -2147483648 ≤ q ∧ q ≤ 2147483647 ∧ -2147483648 ≤ b ∧ b ≤ 2147483647) : ∀ (d : Nat), ∀ (y : Int) (u : Int), (24 - u).toNat = d → (0 ≤ y ∧ y ≤ u ∧ u ≤ 24) →  wW (zK sc) zM240 5 [(0, .inr (.inr (.inl (some (34, 0))))), (1, .inl q), (2, .inl b), (3, .inl y), (4, .inl u)] [] n m (wr (fun vv n1 m1 => ∃ r : Int, vv = some (.inl r) ∧ n = n1 ∧ m = m1 ∧ (0 ≤ r ∧ r ≤ 24))) := by
  intro d
  induction d using Nat.strongRecOn with
  | ind d ih =>
    intro y u hd hi
    have b1 : 0 ≤ m.1 34 0 30 ∧ m.1 34 0 30 ≤ 24 := hG.1 34 _ rfl _ _
    refine ww_go 3 (pc' := 11) (L' := [(0, .inr (.inr (.inl (some (34, 0))))), (1, .inl q), (2, .inl b), (3, .inl y), (4, .inl u)]) (st' := [.inl (m.1 34 0 30), .inl u]) (m' := m) (o := some ((0 < 1))) rfl (show (0 < 1) from by omega) ?_
    refine ww_ic (t := 50) rfl rfl (by omega) (fun (h2 : m.1 34 0 30 ≤ u) => ?_) (fun (h2 : ¬ (m.1 34 0 30 ≤ u)) => ?_)
    · show wW (zK sc) zM240 50 [(0, .inr (.inr (.inl (some (34, 0))))), (1, .inl q), (2, .inl b), (3, .inl y), (4, .inl u)] [] _ _ _
      refine ww_go 1 (pc' := 51) (L' := [(0, .inr (.inr (.inl (some (34, 0))))), (1, .inl q), (2, .inl b), (3, .inl y), (4, .inl u)]) (st' := [.inl y]) (m' := m) (o := none) rfl trivial ?_
      exact ww_rI rfl rfl ⟨_, rfl, rfl, rfl, by omega⟩
    · show wW (zK sc) zM240 14 [(0, .inr (.inr (.inl (some (34, 0))))), (1, .inl q), (2, .inl b), (3, .inl y), (4, .inl u)] [] _ _ _
      have b3 : 0 ≤ m.1 58 0 u.toNat ∧ m.1 58 0 u.toNat ≤ 55 := hG.1 58 _ rfl _ _
      refine ww_go 6 (pc' := 23) (L' := [(0, .inr (.inr (.inl (some (34, 0))))), (1, .inl q), (2, .inl b), (3, .inl y), (4, .inl u)]) (st' := [.inl q, .inl (m.1 58 0 u.toNat), .inl y]) (m' := m) (o := some ((0 < 1) ∧ (0 < 1 ∧ 0 ≤ u ∧ u < ((24 : Nat) : Int)))) rfl (show (0 < 1) ∧ (0 < 1 ∧ 0 ≤ u ∧ u < ((24 : Nat) : Int)) from by omega) ?_
      refine ww_ic (t := 41) rfl rfl (by omega) (fun (h4 : m.1 58 0 u.toNat ≠ q) => ?_) (fun (h4 : ¬ (m.1 58 0 u.toNat ≠ q)) => ?_)
      · show wW (zK sc) zM240 41 [(0, .inr (.inr (.inl (some (34, 0))))), (1, .inl q), (2, .inl b), (3, .inl y), (4, .inl u)] [.inl y] _ _ _
        refine ww_go 5 (pc' := 5) (L' := [(4, .inl (u + 1)), (3, .inl (y + 0)), (0, .inr (.inr (.inl (some (34, 0))))), (1, .inl q), (2, .inl b)]) (st' := []) (m' := m) (o := none) rfl trivial ?_
        refine ww_sub (L := [(0, .inr (.inr (.inl (some (34, 0))))), (1, .inl q), (2, .inl b), (3, .inl (y + 0)), (4, .inl (u + 1))]) ⟨rfl, rfl, rfl, rfl, rfl, trivial⟩ rfl rfl ?_
        exact (ih _ (by omega)) (y + 0) (u + 1) rfl (by omega)
      · show wW (zK sc) zM240 26 [(0, .inr (.inr (.inl (some (34, 0))))), (1, .inl q), (2, .inl b), (3, .inl y), (4, .inl u)] [.inl y] _ _ _
        have b5 : 0 ≤ m.1 59 0 u.toNat ∧ m.1 59 0 u.toNat ≤ 1 := hG.1 59 _ rfl _ _
        refine ww_go 5 (pc' := 34) (L' := [(0, .inr (.inr (.inl (some (34, 0))))), (1, .inl q), (2, .inl b), (3, .inl y), (4, .inl u)]) (st' := [.inl b, .inl (m.1 59 0 u.toNat), .inl y]) (m' := m) (o := some ((0 < 1) ∧ (0 < 1 ∧ 0 ≤ u ∧ u < ((24 : Nat) : Int)))) rfl (show (0 < 1) ∧ (0 < 1 ∧ 0 ≤ u ∧ u < ((24 : Nat) : Int)) from by omega) ?_
        refine ww_ic (t := 41) rfl rfl (by omega) (fun (h6 : m.1 59 0 u.toNat ≠ b) => ?_) (fun (h6 : ¬ (m.1 59 0 u.toNat ≠ b)) => ?_)
        · show wW (zK sc) zM240 41 [(0, .inr (.inr (.inl (some (34, 0))))), (1, .inl q), (2, .inl b), (3, .inl y), (4, .inl u)] [.inl y] _ _ _
          refine ww_go 5 (pc' := 5) (L' := [(4, .inl (u + 1)), (3, .inl (y + 0)), (0, .inr (.inr (.inl (some (34, 0))))), (1, .inl q), (2, .inl b)]) (st' := []) (m' := m) (o := none) rfl trivial ?_
          refine ww_sub (L := [(0, .inr (.inr (.inl (some (34, 0))))), (1, .inl q), (2, .inl b), (3, .inl (y + 0)), (4, .inl (u + 1))]) ⟨rfl, rfl, rfl, rfl, rfl, trivial⟩ rfl rfl ?_
          exact (ih _ (by omega)) (y + 0) (u + 1) rfl (by omega)
        · show wW (zK sc) zM240 37 [(0, .inr (.inr (.inl (some (34, 0))))), (1, .inl q), (2, .inl b), (3, .inl y), (4, .inl u)] [.inl y] _ _ _
          refine ww_go 6 (pc' := 5) (L' := [(4, .inl (u + 1)), (3, .inl (y + 1)), (0, .inr (.inr (.inl (some (34, 0))))), (1, .inl q), (2, .inl b)]) (st' := []) (m' := m) (o := none) rfl trivial ?_
          refine ww_sub (L := [(0, .inr (.inr (.inl (some (34, 0))))), (1, .inl q), (2, .inl b), (3, .inl (y + 1)), (4, .inl (u + 1))]) ⟨rfl, rfl, rfl, rfl, rfl, trivial⟩ rfl rfl ?_
          exact (ih _ (by omega)) (y + 1) (u + 1) rfl (by omega)
set_option maxRecDepth 8000 in
/-- Mo.rowsOf -/
theorem zs240 {sc : xSc} {n : Nat × Nat} {m : wm} {c : Int} (hc : 0 ≤ c ∧ c ≤ 1000000) (q : Int) (b : Int) (hG : zB c m) (h0 : -2147483648 ≤ q ∧ q ≤ 2147483647 ∧ -2147483648 ≤ b ∧ b ≤ 2147483647) : wX (zK sc) 240 [.inr (.inr (.inl (some (34, 0)))), .inl q, .inl b] n m (wr (fun vv n1 m1 => ∃ r : Int, vv = some (.inl r) ∧ n = n1 ∧ m = m1 ∧ (0 ≤ r ∧ r ≤ 24))) := by
  refine wX_of (N := zM240) rfl (Nat.le_of_ble_eq_true rfl) ?_
  show wW (zK sc) zM240 0 [(0, .inr (.inr (.inl (some (34, 0))))), (1, .inl q), (2, .inl b)] [] n m _
  refine ww_go 4 (pc' := 5) (L' := [(4, .inl 0), (3, .inl 0), (0, .inr (.inr (.inl (some (34, 0))))), (1, .inl q), (2, .inl b)]) (st' := []) (m' := m) (o := none) rfl trivial ?_
  refine ww_sub (L := [(0, .inr (.inr (.inl (some (34, 0))))), (1, .inl q), (2, .inl b), (3, .inl 0), (4, .inl 0)]) ⟨rfl, rfl, rfl, rfl, rfl, trivial⟩ rfl rfl ?_
  exact (zs240_l5 hc q b hG h0 _) 0 0 rfl (by omega)
set_option maxRecDepth 8000 in
/-- Mo.isComplete -/
theorem zs209 {sc : xSc} {n : Nat × Nat} {m : wm} {c : Int} (hc : 0 ≤ c ∧ c ≤ 1000000) (q : Int) (hG : zB c m) (h0 : 0 ≤ q ∧ q ≤ 55) : wX (zK sc) 209 [.inr (.inr (.inl (some (34, 0)))), .inl q] n m (wr (fun vv n1 m1 => ∃ r : Int, vv = some (.inl r) ∧ n = n1 ∧ m = m1 ∧ ((r = 1 ∧ 0 ≤ m.1 54 0 q.toNat ∧ m.1 55 0 ((2 * q).toNat) = 1 ∧ (m.1 54 0 q.toNat ≤ 64 ∨ m.1 55 0 ((2 * q + 1).toNat) = 1)) ∨ (r = 0 ∧ (m.1 54 0 q.toNat < 0 ∨ m.1 55 0 ((2 * q).toNat) = 0 ∨ 64 < m.1 54 0 q.toNat ∧ m.1 55 0 ((2 * q + 1).toNat) = 0))))) := by
  refine wX_of (N := zM209) rfl (Nat.le_of_ble_eq_true rfl) ?_
  show wW (zK sc) zM209 0 [(0, .inr (.inr (.inl (some (34, 0))))), (1, .inl q)] [] n m _
  have b1 : (-1) ≤ m.1 54 0 q.toNat ∧ m.1 54 0 q.toNat ≤ 104 := hG.1 54 _ rfl _ _
  refine ww_go 4 (pc' := 6) (L' := [(0, .inr (.inr (.inl (some (34, 0))))), (1, .inl q)]) (st' := [.inl (m.1 54 0 q.toNat)]) (m' := m) (o := some ((0 < 1) ∧ (0 < 1 ∧ 0 ≤ q ∧ q < ((56 : Nat) : Int)))) rfl (show (0 < 1) ∧ (0 < 1 ∧ 0 ≤ q ∧ q < ((56 : Nat) : Int)) from by omega) ?_
  refine ww_if (t := 50) rfl rfl (by omega) (fun (h2 : m.1 54 0 q.toNat < 0) => ?_) (fun (h2 : ¬ (m.1 54 0 q.toNat < 0)) => ?_)
  · show wW (zK sc) zM209 50 [(0, .inr (.inr (.inl (some (34, 0))))), (1, .inl q)] [] _ _ _
    refine ww_go 1 (pc' := 51) (L' := [(0, .inr (.inr (.inl (some (34, 0))))), (1, .inl q)]) (st' := [.inl 0]) (m' := m) (o := none) rfl trivial ?_
    exact ww_rB rfl rfl (by omega) ⟨_, rfl, rfl, rfl, by omega⟩
  · show wW (zK sc) zM209 9 [(0, .inr (.inr (.inl (some (34, 0))))), (1, .inl q)] [] _ _ _
    have b3 : 0 ≤ m.1 55 0 ((2 * q).toNat) ∧ m.1 55 0 ((2 * q).toNat) ≤ 1 := hG.1 55 _ rfl _ _
    refine ww_go 6 (pc' := 17) (L' := [(0, .inr (.inr (.inl (some (34, 0))))), (1, .inl q)]) (st' := [.inl (m.1 55 0 ((2 * q).toNat))]) (m' := m) (o := some ((0 < 1) ∧ (0 < 1 ∧ 0 ≤ 2 * q ∧ 2 * q < ((112 : Nat) : Int)))) rfl (show (0 < 1) ∧ (0 < 1 ∧ 0 ≤ 2 * q ∧ 2 * q < ((112 : Nat) : Int)) from by omega) ?_
    refine ww_if (t := 50) rfl rfl (by omega) (fun (h4 : m.1 55 0 ((2 * q).toNat) = 0) => ?_) (fun (h4 : ¬ (m.1 55 0 ((2 * q).toNat) = 0)) => ?_)
    · show wW (zK sc) zM209 50 [(0, .inr (.inr (.inl (some (34, 0))))), (1, .inl q)] [] _ _ _
      refine ww_go 1 (pc' := 51) (L' := [(0, .inr (.inr (.inl (some (34, 0))))), (1, .inl q)]) (st' := [.inl 0]) (m' := m) (o := none) rfl trivial ?_
      exact ww_rB rfl rfl (by omega) ⟨_, rfl, rfl, rfl, by omega⟩
    · show wW (zK sc) zM209 20 [(0, .inr (.inr (.inl (some (34, 0))))), (1, .inl q)] [] _ _ _
      have b5 : (-1) ≤ m.1 54 0 q.toNat ∧ m.1 54 0 q.toNat ≤ 104 := hG.1 54 _ rfl _ _
      refine ww_go 4 (pc' := 26) (L' := [(0, .inr (.inr (.inl (some (34, 0))))), (1, .inl q)]) (st' := [.inl (m.1 54 0 q.toNat)]) (m' := m) (o := some ((0 < 1) ∧ (0 < 1 ∧ 0 ≤ q ∧ q < ((56 : Nat) : Int)))) rfl (show (0 < 1) ∧ (0 < 1 ∧ 0 ≤ q ∧ q < ((56 : Nat) : Int)) from by omega) ?_
      refine ww_call (vs := [.inl (m.1 54 0 q.toNat)]) (r := []) (p := True) rfl rfl rfl rfl trivial (zs182 (m.1 54 0 q.toNat) (by omega)) ?_
      rintro _ _ _ ⟨r6, rfl, rfl, rfl, hr7⟩
      show wW (zK sc) zM209 29 [(0, .inr (.inr (.inl (some (34, 0))))), (1, .inl q)] [.inl r6] _ _ _
      refine ww_go 1 (pc' := 30) (L' := [(0, .inr (.inr (.inl (some (34, 0))))), (1, .inl q)]) (st' := [.inl 1, .inl r6]) (m' := m) (o := none) rfl trivial ?_
      refine ww_ic (t := 46) rfl rfl (by omega) (fun (h8 : r6 = 1) => ?_) (fun (h8 : ¬ (r6 = 1)) => ?_)
      · show wW (zK sc) zM209 46 [(0, .inr (.inr (.inl (some (34, 0))))), (1, .inl q)] [] _ _ _
        refine ww_go 2 (pc' := 51) (L' := [(0, .inr (.inr (.inl (some (34, 0))))), (1, .inl q)]) (st' := [.inl 1]) (m' := m) (o := none) rfl trivial ?_
        exact ww_rB rfl rfl (by omega) ⟨_, rfl, rfl, rfl, by omega⟩
      · show wW (zK sc) zM209 33 [(0, .inr (.inr (.inl (some (34, 0))))), (1, .inl q)] [] _ _ _
        have b9 : 0 ≤ m.1 55 0 (((2 * q) + 1).toNat) ∧ m.1 55 0 (((2 * q) + 1).toNat) ≤ 1 := hG.1 55 _ rfl _ _
        refine ww_go 8 (pc' := 43) (L' := [(0, .inr (.inr (.inl (some (34, 0))))), (1, .inl q)]) (st' := [.inl (m.1 55 0 (((2 * q) + 1).toNat))]) (m' := m) (o := some ((0 < 1) ∧ (0 < 1 ∧ 0 ≤ (2 * q) + 1 ∧ (2 * q) + 1 < ((112 : Nat) : Int)))) rfl (show (0 < 1) ∧ (0 < 1 ∧ 0 ≤ (2 * q) + 1 ∧ (2 * q) + 1 < ((112 : Nat) : Int)) from by omega) ?_
        refine ww_if (t := 50) rfl rfl (by omega) (fun (h10 : m.1 55 0 (((2 * q) + 1).toNat) = 0) => ?_) (fun (h10 : ¬ (m.1 55 0 (((2 * q) + 1).toNat) = 0)) => ?_)
        · show wW (zK sc) zM209 50 [(0, .inr (.inr (.inl (some (34, 0))))), (1, .inl q)] [] _ _ _
          refine ww_go 1 (pc' := 51) (L' := [(0, .inr (.inr (.inl (some (34, 0))))), (1, .inl q)]) (st' := [.inl 0]) (m' := m) (o := none) rfl trivial ?_
          exact ww_rB rfl rfl (by omega) ⟨_, rfl, rfl, rfl, by omega⟩
        · show wW (zK sc) zM209 46 [(0, .inr (.inr (.inl (some (34, 0))))), (1, .inl q)] [] _ _ _
          refine ww_go 2 (pc' := 51) (L' := [(0, .inr (.inr (.inl (some (34, 0))))), (1, .inl q)]) (st' := [.inl 1]) (m' := m) (o := none) rfl trivial ?_
          exact ww_rB rfl rfl (by omega) ⟨_, rfl, rfl, rfl, by omega⟩
set_option maxRecDepth 8000 in
/-- Mo.drops -/
theorem zs193 {sc : xSc} {n : Nat × Nat} {m0 : wm} {c : Int} (hc : 0 ≤ c ∧ c ≤ 1000000) (x : Int) (hG : zB c m0) (h0 : 0 ≤ x ∧ x ≤ 6) : wX (zK sc) 193 [.inr (.inr (.inl (some (34, 0)))), .inl x] n m0 (wr (fun vv n1 m1 => ∃ r : Int, vv = some (.inl r) ∧ n = n1 ∧ zB (c + 1) m1 ∧ zfr (fun k i j => (k = 34 ∧ j = 35)) m0 m1 ∧ (r = x))) := by
  refine wX_of (N := zM193) rfl (Nat.le_of_ble_eq_true rfl) ?_
  show wW (zK sc) zM193 0 [(0, .inr (.inr (.inl (some (34, 0))))), (1, .inl x)] [] n m0 _
  have hF : zfr (fun k i j => (k = 34 ∧ j = 35)) m0 m0 := zfr_rf
  have b1 : 0 ≤ m0.1 34 0 35 ∧ m0.1 34 0 35 ≤ c := hG.1 34 _ rfl _ _
  refine ww_go 6 (pc' := 10) (L' := [(0, .inr (.inr (.inl (some (34, 0))))), (1, .inl x)]) (st' := []) (m' := wuI m0 34 0 35 ((m0.1 34 0 35) + 1)) (o := some ((0 < 1) ∧ (0 < 1))) rfl (show (0 < 1) ∧ (0 < 1) from by omega) ?_
  obtain ⟨m2, hm2⟩ : ∃ zq9 : wm, zq9 = wuI m0 34 0 35 ((m0.1 34 0 35) + 1) := ⟨_, rfl⟩
  rw [← hm2]
  have hXm2 := zB_mono (c' := (c + 1)) hG (by omega)
  have hGm2 : zB (c + 1) m2 := by rw [hm2]; exact zB_wI rfl (show 0 ≤ (m0.1 34 0 35) + 1 ∧ (m0.1 34 0 35) + 1 ≤ (c + 1) from by omega) hXm2
  have hFm2 : zfr (fun k i j => (k = 34 ∧ j = 35)) m0 m2 := by rw [hm2]; exact zfr_wI hF (show (34 = 34 ∧ 35 = 35) from ⟨rfl, rfl⟩)
  have s3 : m2.1 34 0 35 = (m0.1 34 0 35) + 1 := by rw [hm2]; exact wuI_self
  refine ww_go 1 (pc' := 11) (L' := [(0, .inr (.inr (.inl (some (34, 0))))), (1, .inl x)]) (st' := [.inl x]) (m' := m2) (o := none) rfl trivial ?_
  exact ww_rI rfl rfl ⟨_, rfl, rfl, zB_mono hGm2 (by omega), hFm2, by omega⟩
set_option maxRecDepth 8000 in
/-- Mo.canBe -/
theorem zs186 {sc : xSc} {n : Nat × Nat} {m : wm} {c : Int} (hc : 0 ≤ c ∧ c ≤ 1000000) (q : Int) (hG : zB c m) (h0 : 0 ≤ q ∧ q ≤ 31) : wX (zK sc) 186 [.inr (.inr (.inl (some (34, 0)))), .inl q] n m (wr (fun vv n1 m1 => ∃ r : Int, vv = some (.inl r) ∧ n = n1 ∧ m = m1 ∧ (r = 0 ∨ (r = 1 ∧ m.1 47 0 ((24 * q + 1).toNat) ≤ 1 ∧ 1 ≤ 256 * m.1 47 0 ((24 * q + 2).toNat) + m.1 47 0 ((24 * q + 3).toNat) ∧ m.1 47 0 ((24 * q + 4).toNat) ≤ 6 ∧ m.1 47 0 ((24 * q + 7).toNat) ≤ 104 ∧ (m.1 47 0 ((24 * q + 5).toNat) = 0 ∨ m.1 47 0 ((24 * q + 5).toNat) = 1 ∧ 64 < m.1 47 0 ((24 * q + 7).toNat)))))) := by
  refine wX_of (N := zM186) rfl (Nat.le_of_ble_eq_true rfl) ?_
  show wW (zK sc) zM186 0 [(0, .inr (.inr (.inl (some (34, 0))))), (1, .inl q)] [] n m _
  have b1 : 0 ≤ m.1 47 0 (((24 * q) + 1).toNat) ∧ m.1 47 0 (((24 * q) + 1).toNat) ≤ 255 := hG.1 47 _ rfl _ _
  have b2 : 0 ≤ m.1 47 0 (((24 * q) + 2).toNat) ∧ m.1 47 0 (((24 * q) + 2).toNat) ≤ 255 := hG.1 47 _ rfl _ _
  have b3 : 0 ≤ m.1 47 0 (((24 * q) + 3).toNat) ∧ m.1 47 0 (((24 * q) + 3).toNat) ≤ 255 := hG.1 47 _ rfl _ _
  have b4 : 0 ≤ m.1 47 0 (((24 * q) + 7).toNat) ∧ m.1 47 0 (((24 * q) + 7).toNat) ≤ 255 := hG.1 47 _ rfl _ _
  refine ww_go 36 (pc' := 50) (L' := [(5, .inl (m.1 47 0 (((24 * q) + 7).toNat))), (4, .inl ((256 * (m.1 47 0 (((24 * q) + 2).toNat))) + (m.1 47 0 (((24 * q) + 3).toNat)))), (3, .inl (m.1 47 0 (((24 * q) + 1).toNat))), (2, .inl (24 * q)), (0, .inr (.inr (.inl (some (34, 0))))), (1, .inl q)]) (st' := [.inl 1, .inl (m.1 47 0 (((24 * q) + 1).toNat))]) (m' := m) (o := some ((0 < 1) ∧ (0 < 1 ∧ 0 ≤ (24 * q) + 1 ∧ (24 * q) + 1 < ((768 : Nat) : Int)) ∧ (0 < 1) ∧ (0 < 1 ∧ 0 ≤ (24 * q) + 2 ∧ (24 * q) + 2 < ((768 : Nat) : Int)) ∧ (0 < 1) ∧ (0 < 1 ∧ 0 ≤ (24 * q) + 3 ∧ (24 * q) + 3 < ((768 : Nat) : Int)) ∧ (0 < 1) ∧ (0 < 1 ∧ 0 ≤ (24 * q) + 7 ∧ (24 * q) + 7 < ((768 : Nat) : Int)))) rfl (show (0 < 1) ∧ (0 < 1 ∧ 0 ≤ (24 * q) + 1 ∧ (24 * q) + 1 < ((768 : Nat) : Int)) ∧ (0 < 1) ∧ (0 < 1 ∧ 0 ≤ (24 * q) + 2 ∧ (24 * q) + 2 < ((768 : Nat) : Int)) ∧ (0 < 1) ∧ (0 < 1 ∧ 0 ≤ (24 * q) + 3 ∧ (24 * q) + 3 < ((768 : Nat) : Int)) ∧ (0 < 1) ∧ (0 < 1 ∧ 0 ≤ (24 * q) + 7 ∧ (24 * q) + 7 < ((768 : Nat) : Int)) from by omega) ?_
  refine ww_ic (t := 94) rfl rfl (by omega) (fun (h5 : 1 < m.1 47 0 (((24 * q) + 1).toNat)) => ?_) (fun (h5 : ¬ (1 < m.1 47 0 (((24 * q) + 1).toNat))) => ?_)
  · show wW (zK sc) zM186 94 [(5, .inl (m.1 47 0 (((24 * q) + 7).toNat))), (4, .inl ((256 * (m.1 47 0 (((24 * q) + 2).toNat))) + (m.1 47 0 (((24 * q) + 3).toNat)))), (3, .inl (m.1 47 0 (((24 * q) + 1).toNat))), (2, .inl (24 * q)), (0, .inr (.inr (.inl (some (34, 0))))), (1, .inl q)] [] _ _ _
    refine ww_go 1 (pc' := 95) (L' := [(5, .inl (m.1 47 0 (((24 * q) + 7).toNat))), (4, .inl ((256 * (m.1 47 0 (((24 * q) + 2).toNat))) + (m.1 47 0 (((24 * q) + 3).toNat)))), (3, .inl (m.1 47 0 (((24 * q) + 1).toNat))), (2, .inl (24 * q)), (0, .inr (.inr (.inl (some (34, 0))))), (1, .inl q)]) (st' := [.inl 0]) (m' := m) (o := none) rfl trivial ?_
    exact ww_rB rfl rfl (by omega) ⟨_, rfl, rfl, rfl, by omega⟩
  · show wW (zK sc) zM186 53 [(5, .inl (m.1 47 0 (((24 * q) + 7).toNat))), (4, .inl ((256 * (m.1 47 0 (((24 * q) + 2).toNat))) + (m.1 47 0 (((24 * q) + 3).toNat)))), (3, .inl (m.1 47 0 (((24 * q) + 1).toNat))), (2, .inl (24 * q)), (0, .inr (.inr (.inl (some (34, 0))))), (1, .inl q)] [] _ _ _
    refine ww_go 1 (pc' := 55) (L' := [(5, .inl (m.1 47 0 (((24 * q) + 7).toNat))), (4, .inl ((256 * (m.1 47 0 (((24 * q) + 2).toNat))) + (m.1 47 0 (((24 * q) + 3).toNat)))), (3, .inl (m.1 47 0 (((24 * q) + 1).toNat))), (2, .inl (24 * q)), (0, .inr (.inr (.inl (some (34, 0))))), (1, .inl q)]) (st' := [.inl ((256 * (m.1 47 0 (((24 * q) + 2).toNat))) + (m.1 47 0 (((24 * q) + 3).toNat)))]) (m' := m) (o := none) rfl trivial ?_
    refine ww_if (t := 94) rfl rfl (by omega) (fun (h6 : (256 * (m.1 47 0 (((24 * q) + 2).toNat))) + (m.1 47 0 (((24 * q) + 3).toNat)) = 0) => ?_) (fun (h6 : ¬ ((256 * (m.1 47 0 (((24 * q) + 2).toNat))) + (m.1 47 0 (((24 * q) + 3).toNat)) = 0)) => ?_)
    · show wW (zK sc) zM186 94 [(5, .inl (m.1 47 0 (((24 * q) + 7).toNat))), (4, .inl ((256 * (m.1 47 0 (((24 * q) + 2).toNat))) + (m.1 47 0 (((24 * q) + 3).toNat)))), (3, .inl (m.1 47 0 (((24 * q) + 1).toNat))), (2, .inl (24 * q)), (0, .inr (.inr (.inl (some (34, 0))))), (1, .inl q)] [] _ _ _
      refine ww_go 1 (pc' := 95) (L' := [(5, .inl (m.1 47 0 (((24 * q) + 7).toNat))), (4, .inl ((256 * (m.1 47 0 (((24 * q) + 2).toNat))) + (m.1 47 0 (((24 * q) + 3).toNat)))), (3, .inl (m.1 47 0 (((24 * q) + 1).toNat))), (2, .inl (24 * q)), (0, .inr (.inr (.inl (some (34, 0))))), (1, .inl q)]) (st' := [.inl 0]) (m' := m) (o := none) rfl trivial ?_
      exact ww_rB rfl rfl (by omega) ⟨_, rfl, rfl, rfl, by omega⟩
    · show wW (zK sc) zM186 58 [(5, .inl (m.1 47 0 (((24 * q) + 7).toNat))), (4, .inl ((256 * (m.1 47 0 (((24 * q) + 2).toNat))) + (m.1 47 0 (((24 * q) + 3).toNat)))), (3, .inl (m.1 47 0 (((24 * q) + 1).toNat))), (2, .inl (24 * q)), (0, .inr (.inr (.inl (some (34, 0))))), (1, .inl q)] [] _ _ _
      have b7 : 0 ≤ m.1 47 0 (((24 * q) + 4).toNat) ∧ m.1 47 0 (((24 * q) + 4).toNat) ≤ 255 := hG.1 47 _ rfl _ _
      refine ww_go 7 (pc' := 68) (L' := [(5, .inl (m.1 47 0 (((24 * q) + 7).toNat))), (4, .inl ((256 * (m.1 47 0 (((24 * q) + 2).toNat))) + (m.1 47 0 (((24 * q) + 3).toNat)))), (3, .inl (m.1 47 0 (((24 * q) + 1).toNat))), (2, .inl (24 * q)), (0, .inr (.inr (.inl (some (34, 0))))), (1, .inl q)]) (st' := [.inl 6, .inl (m.1 47 0 (((24 * q) + 4).toNat))]) (m' := m) (o := some ((0 < 1) ∧ (0 < 1 ∧ 0 ≤ (24 * q) + 4 ∧ (24 * q) + 4 < ((768 : Nat) : Int)))) rfl (show (0 < 1) ∧ (0 < 1 ∧ 0 ≤ (24 * q) + 4 ∧ (24 * q) + 4 < ((768 : Nat) : Int)) from by omega) ?_
      refine ww_ic (t := 94) rfl rfl (by omega) (fun (h8 : 6 < m.1 47 0 (((24 * q) + 4).toNat)) => ?_) (fun (h8 : ¬ (6 < m.1 47 0 (((24 * q) + 4).toNat))) => ?_)
      · show wW (zK sc) zM186 94 [(5, .inl (m.1 47 0 (((24 * q) + 7).toNat))), (4, .inl ((256 * (m.1 47 0 (((24 * q) + 2).toNat))) + (m.1 47 0 (((24 * q) + 3).toNat)))), (3, .inl (m.1 47 0 (((24 * q) + 1).toNat))), (2, .inl (24 * q)), (0, .inr (.inr (.inl (some (34, 0))))), (1, .inl q)] [] _ _ _
        refine ww_go 1 (pc' := 95) (L' := [(5, .inl (m.1 47 0 (((24 * q) + 7).toNat))), (4, .inl ((256 * (m.1 47 0 (((24 * q) + 2).toNat))) + (m.1 47 0 (((24 * q) + 3).toNat)))), (3, .inl (m.1 47 0 (((24 * q) + 1).toNat))), (2, .inl (24 * q)), (0, .inr (.inr (.inl (some (34, 0))))), (1, .inl q)]) (st' := [.inl 0]) (m' := m) (o := none) rfl trivial ?_
        exact ww_rB rfl rfl (by omega) ⟨_, rfl, rfl, rfl, by omega⟩
      · show wW (zK sc) zM186 71 [(5, .inl (m.1 47 0 (((24 * q) + 7).toNat))), (4, .inl ((256 * (m.1 47 0 (((24 * q) + 2).toNat))) + (m.1 47 0 (((24 * q) + 3).toNat)))), (3, .inl (m.1 47 0 (((24 * q) + 1).toNat))), (2, .inl (24 * q)), (0, .inr (.inr (.inl (some (34, 0))))), (1, .inl q)] [] _ _ _
        refine ww_go 2 (pc' := 75) (L' := [(5, .inl (m.1 47 0 (((24 * q) + 7).toNat))), (4, .inl ((256 * (m.1 47 0 (((24 * q) + 2).toNat))) + (m.1 47 0 (((24 * q) + 3).toNat)))), (3, .inl (m.1 47 0 (((24 * q) + 1).toNat))), (2, .inl (24 * q)), (0, .inr (.inr (.inl (some (34, 0))))), (1, .inl q)]) (st' := [.inl 104, .inl (m.1 47 0 (((24 * q) + 7).toNat))]) (m' := m) (o := none) rfl trivial ?_
        refine ww_ic (t := 94) rfl rfl (by omega) (fun (h9 : 104 < m.1 47 0 (((24 * q) + 7).toNat)) => ?_) (fun (h9 : ¬ (104 < m.1 47 0 (((24 * q) + 7).toNat))) => ?_)
        · show wW (zK sc) zM186 94 [(5, .inl (m.1 47 0 (((24 * q) + 7).toNat))), (4, .inl ((256 * (m.1 47 0 (((24 * q) + 2).toNat))) + (m.1 47 0 (((24 * q) + 3).toNat)))), (3, .inl (m.1 47 0 (((24 * q) + 1).toNat))), (2, .inl (24 * q)), (0, .inr (.inr (.inl (some (34, 0))))), (1, .inl q)] [] _ _ _
          refine ww_go 1 (pc' := 95) (L' := [(5, .inl (m.1 47 0 (((24 * q) + 7).toNat))), (4, .inl ((256 * (m.1 47 0 (((24 * q) + 2).toNat))) + (m.1 47 0 (((24 * q) + 3).toNat)))), (3, .inl (m.1 47 0 (((24 * q) + 1).toNat))), (2, .inl (24 * q)), (0, .inr (.inr (.inl (some (34, 0))))), (1, .inl q)]) (st' := [.inl 0]) (m' := m) (o := none) rfl trivial ?_
          exact ww_rB rfl rfl (by omega) ⟨_, rfl, rfl, rfl, by omega⟩
        · show wW (zK sc) zM186 78 [(5, .inl (m.1 47 0 (((24 * q) + 7).toNat))), (4, .inl ((256 * (m.1 47 0 (((24 * q) + 2).toNat))) + (m.1 47 0 (((24 * q) + 3).toNat)))), (3, .inl (m.1 47 0 (((24 * q) + 1).toNat))), (2, .inl (24 * q)), (0, .inr (.inr (.inl (some (34, 0))))), (1, .inl q)] [] _ _ _
          have b10 : 0 ≤ m.1 47 0 (((24 * q) + 5).toNat) ∧ m.1 47 0 (((24 * q) + 5).toNat) ≤ 255 := hG.1 47 _ rfl _ _
          refine ww_go 7 (pc' := 88) (L' := [(5, .inl (m.1 47 0 (((24 * q) + 7).toNat))), (4, .inl ((256 * (m.1 47 0 (((24 * q) + 2).toNat))) + (m.1 47 0 (((24 * q) + 3).toNat)))), (3, .inl (m.1 47 0 (((24 * q) + 1).toNat))), (2, .inl (24 * q)), (0, .inr (.inr (.inl (some (34, 0))))), (1, .inl q)]) (st' := [.inl (m.1 47 0 (((24 * q) + 7).toNat)), .inl (m.1 47 0 (((24 * q) + 5).toNat))]) (m' := m) (o := some ((0 < 1) ∧ (0 < 1 ∧ 0 ≤ (24 * q) + 5 ∧ (24 * q) + 5 < ((768 : Nat) : Int)))) rfl (show (0 < 1) ∧ (0 < 1 ∧ 0 ≤ (24 * q) + 5 ∧ (24 * q) + 5 < ((768 : Nat) : Int)) from by omega) ?_
          refine ww_call (vs := [.inl (m.1 47 0 (((24 * q) + 7).toNat))]) (r := [.inl (m.1 47 0 (((24 * q) + 5).toNat))]) (p := True) rfl rfl rfl rfl trivial (zs182 (m.1 47 0 (((24 * q) + 7).toNat)) (by omega)) ?_
          rintro _ _ _ ⟨r11, rfl, rfl, rfl, hr12⟩
          show wW (zK sc) zM186 91 [(5, .inl (m.1 47 0 (((24 * q) + 7).toNat))), (4, .inl ((256 * (m.1 47 0 (((24 * q) + 2).toNat))) + (m.1 47 0 (((24 * q) + 3).toNat)))), (3, .inl (m.1 47 0 (((24 * q) + 1).toNat))), (2, .inl (24 * q)), (0, .inr (.inr (.inl (some (34, 0))))), (1, .inl q)] [.inl r11, .inl (m.1 47 0 (((24 * q) + 5).toNat))] _ _ _
          refine ww_ic (t := 96) rfl rfl (by omega) (fun (h13 : m.1 47 0 (((24 * q) + 5).toNat) < r11) => ?_) (fun (h13 : ¬ (m.1 47 0 (((24 * q) + 5).toNat) < r11)) => ?_)
          · show wW (zK sc) zM186 96 [(5, .inl (m.1 47 0 (((24 * q) + 7).toNat))), (4, .inl ((256 * (m.1 47 0 (((24 * q) + 2).toNat))) + (m.1 47 0 (((24 * q) + 3).toNat)))), (3, .inl (m.1 47 0 (((24 * q) + 1).toNat))), (2, .inl (24 * q)), (0, .inr (.inr (.inl (some (34, 0))))), (1, .inl q)] [] _ _ _
            have b14 : 0 ≤ m.1 47 0 (((24 * q) + 6).toNat) ∧ m.1 47 0 (((24 * q) + 6).toNat) ≤ 255 := hG.1 47 _ rfl _ _
            have b15 : 0 ≤ m.1 47 0 (((24 * q) + 5).toNat) ∧ m.1 47 0 (((24 * q) + 5).toNat) ≤ 255 := hG.1 47 _ rfl _ _
            refine ww_go 14 (pc' := 116) (L' := [(5, .inl (m.1 47 0 (((24 * q) + 7).toNat))), (4, .inl ((256 * (m.1 47 0 (((24 * q) + 2).toNat))) + (m.1 47 0 (((24 * q) + 3).toNat)))), (3, .inl (m.1 47 0 (((24 * q) + 1).toNat))), (2, .inl (24 * q)), (0, .inr (.inr (.inl (some (34, 0))))), (1, .inl q)]) (st' := [.inl (m.1 47 0 (((24 * q) + 5).toNat)), .inl (m.1 47 0 (((24 * q) + 7).toNat)), .inl 2, .inl (m.1 47 0 (((24 * q) + 6).toNat))]) (m' := m) (o := some ((0 < 1) ∧ (0 < 1 ∧ 0 ≤ (24 * q) + 6 ∧ (24 * q) + 6 < ((768 : Nat) : Int)) ∧ (0 < 1) ∧ (0 < 1 ∧ 0 ≤ (24 * q) + 5 ∧ (24 * q) + 5 < ((768 : Nat) : Int)))) rfl (show (0 < 1) ∧ (0 < 1 ∧ 0 ≤ (24 * q) + 6 ∧ (24 * q) + 6 < ((768 : Nat) : Int)) ∧ (0 < 1) ∧ (0 < 1 ∧ 0 ≤ (24 * q) + 5 ∧ (24 * q) + 5 < ((768 : Nat) : Int)) from by omega) ?_
            refine ww_call (vs := [.inl (m.1 47 0 (((24 * q) + 7).toNat)), .inl (m.1 47 0 (((24 * q) + 5).toNat))]) (r := [.inl 2, .inl (m.1 47 0 (((24 * q) + 6).toNat))]) (p := True) rfl rfl rfl rfl trivial (zs229 (m.1 47 0 (((24 * q) + 7).toNat)) (m.1 47 0 (((24 * q) + 5).toNat)) (by omega)) ?_
            rintro _ _ _ ⟨r16, rfl, rfl, rfl, hr17⟩
            show wW (zK sc) zM186 119 [(5, .inl (m.1 47 0 (((24 * q) + 7).toNat))), (4, .inl ((256 * (m.1 47 0 (((24 * q) + 2).toNat))) + (m.1 47 0 (((24 * q) + 3).toNat)))), (3, .inl (m.1 47 0 (((24 * q) + 1).toNat))), (2, .inl (24 * q)), (0, .inr (.inr (.inl (some (34, 0))))), (1, .inl q)] [.inl r16, .inl 2, .inl (m.1 47 0 (((24 * q) + 6).toNat))] _ _ _
            refine ww_go 1 (pc' := 120) (L' := [(5, .inl (m.1 47 0 (((24 * q) + 7).toNat))), (4, .inl ((256 * (m.1 47 0 (((24 * q) + 2).toNat))) + (m.1 47 0 (((24 * q) + 3).toNat)))), (3, .inl (m.1 47 0 (((24 * q) + 1).toNat))), (2, .inl (24 * q)), (0, .inr (.inr (.inl (some (34, 0))))), (1, .inl q)]) (st' := [.inl (2 * r16), .inl (m.1 47 0 (((24 * q) + 6).toNat))]) (m' := m) (o := none) rfl trivial ?_
            refine ww_ic (t := 151) rfl rfl (by omega) (fun (h18 : 2 * r16 ≤ m.1 47 0 (((24 * q) + 6).toNat)) => ?_) (fun (h18 : ¬ (2 * r16 ≤ m.1 47 0 (((24 * q) + 6).toNat))) => ?_)
            · show wW (zK sc) zM186 151 [(5, .inl (m.1 47 0 (((24 * q) + 7).toNat))), (4, .inl ((256 * (m.1 47 0 (((24 * q) + 2).toNat))) + (m.1 47 0 (((24 * q) + 3).toNat)))), (3, .inl (m.1 47 0 (((24 * q) + 1).toNat))), (2, .inl (24 * q)), (0, .inr (.inr (.inl (some (34, 0))))), (1, .inl q)] [] _ _ _
              refine ww_go 1 (pc' := 152) (L' := [(5, .inl (m.1 47 0 (((24 * q) + 7).toNat))), (4, .inl ((256 * (m.1 47 0 (((24 * q) + 2).toNat))) + (m.1 47 0 (((24 * q) + 3).toNat)))), (3, .inl (m.1 47 0 (((24 * q) + 1).toNat))), (2, .inl (24 * q)), (0, .inr (.inr (.inl (some (34, 0))))), (1, .inl q)]) (st' := [.inl 0]) (m' := m) (o := none) rfl trivial ?_
              exact ww_rB rfl rfl (by omega) ⟨_, rfl, rfl, rfl, by omega⟩
            · show wW (zK sc) zM186 123 [(5, .inl (m.1 47 0 (((24 * q) + 7).toNat))), (4, .inl ((256 * (m.1 47 0 (((24 * q) + 2).toNat))) + (m.1 47 0 (((24 * q) + 3).toNat)))), (3, .inl (m.1 47 0 (((24 * q) + 1).toNat))), (2, .inl (24 * q)), (0, .inr (.inr (.inl (some (34, 0))))), (1, .inl q)] [] _ _ _
              have b19 : 0 ≤ m.1 50 0 ((4 * (m.1 47 0 (((24 * q) + 1).toNat))).toNat) ∧ m.1 50 0 ((4 * (m.1 47 0 (((24 * q) + 1).toNat))).toNat) ≤ 65535 := hG.1 50 _ rfl _ _
              refine ww_go 6 (pc' := 131) (L' := [(5, .inl (m.1 47 0 (((24 * q) + 7).toNat))), (4, .inl ((256 * (m.1 47 0 (((24 * q) + 2).toNat))) + (m.1 47 0 (((24 * q) + 3).toNat)))), (3, .inl (m.1 47 0 (((24 * q) + 1).toNat))), (2, .inl (24 * q)), (0, .inr (.inr (.inl (some (34, 0))))), (1, .inl q)]) (st' := [.inl (m.1 50 0 ((4 * (m.1 47 0 (((24 * q) + 1).toNat))).toNat))]) (m' := m) (o := some ((0 < 1) ∧ (0 < 1 ∧ 0 ≤ 4 * (m.1 47 0 (((24 * q) + 1).toNat)) ∧ 4 * (m.1 47 0 (((24 * q) + 1).toNat)) < ((8 : Nat) : Int)))) rfl (show (0 < 1) ∧ (0 < 1 ∧ 0 ≤ 4 * (m.1 47 0 (((24 * q) + 1).toNat)) ∧ 4 * (m.1 47 0 (((24 * q) + 1).toNat)) < ((8 : Nat) : Int)) from by omega) ?_
              refine ww_if (t := 147) rfl rfl (by omega) (fun (h20 : m.1 50 0 ((4 * (m.1 47 0 (((24 * q) + 1).toNat))).toNat) = 0) => ?_) (fun (h20 : ¬ (m.1 50 0 ((4 * (m.1 47 0 (((24 * q) + 1).toNat))).toNat) = 0)) => ?_)
              · show wW (zK sc) zM186 147 [(5, .inl (m.1 47 0 (((24 * q) + 7).toNat))), (4, .inl ((256 * (m.1 47 0 (((24 * q) + 2).toNat))) + (m.1 47 0 (((24 * q) + 3).toNat)))), (3, .inl (m.1 47 0 (((24 * q) + 1).toNat))), (2, .inl (24 * q)), (0, .inr (.inr (.inl (some (34, 0))))), (1, .inl q)] [] _ _ _
                refine ww_go 2 (pc' := 152) (L' := [(5, .inl (m.1 47 0 (((24 * q) + 7).toNat))), (4, .inl ((256 * (m.1 47 0 (((24 * q) + 2).toNat))) + (m.1 47 0 (((24 * q) + 3).toNat)))), (3, .inl (m.1 47 0 (((24 * q) + 1).toNat))), (2, .inl (24 * q)), (0, .inr (.inr (.inl (some (34, 0))))), (1, .inl q)]) (st' := [.inl 1]) (m' := m) (o := none) rfl trivial ?_
                exact ww_rB rfl rfl (by omega) ⟨_, rfl, rfl, rfl, by omega⟩
              · show wW (zK sc) zM186 134 [(5, .inl (m.1 47 0 (((24 * q) + 7).toNat))), (4, .inl ((256 * (m.1 47 0 (((24 * q) + 2).toNat))) + (m.1 47 0 (((24 * q) + 3).toNat)))), (3, .inl (m.1 47 0 (((24 * q) + 1).toNat))), (2, .inl (24 * q)), (0, .inr (.inr (.inl (some (34, 0))))), (1, .inl q)] [] _ _ _
                have b21 : 0 ≤ m.1 50 0 ((4 * (m.1 47 0 (((24 * q) + 1).toNat))).toNat) ∧ m.1 50 0 ((4 * (m.1 47 0 (((24 * q) + 1).toNat))).toNat) ≤ 65535 := hG.1 50 _ rfl _ _
                refine ww_go 7 (pc' := 144) (L' := [(5, .inl (m.1 47 0 (((24 * q) + 7).toNat))), (4, .inl ((256 * (m.1 47 0 (((24 * q) + 2).toNat))) + (m.1 47 0 (((24 * q) + 3).toNat)))), (3, .inl (m.1 47 0 (((24 * q) + 1).toNat))), (2, .inl (24 * q)), (0, .inr (.inr (.inl (some (34, 0))))), (1, .inl q)]) (st' := [.inl (m.1 50 0 ((4 * (m.1 47 0 (((24 * q) + 1).toNat))).toNat)), .inl ((256 * (m.1 47 0 (((24 * q) + 2).toNat))) + (m.1 47 0 (((24 * q) + 3).toNat)))]) (m' := m) (o := some ((0 < 1) ∧ (0 < 1 ∧ 0 ≤ 4 * (m.1 47 0 (((24 * q) + 1).toNat)) ∧ 4 * (m.1 47 0 (((24 * q) + 1).toNat)) < ((8 : Nat) : Int)))) rfl (show (0 < 1) ∧ (0 < 1 ∧ 0 ≤ 4 * (m.1 47 0 (((24 * q) + 1).toNat)) ∧ 4 * (m.1 47 0 (((24 * q) + 1).toNat)) < ((8 : Nat) : Int)) from by omega) ?_
                refine ww_ic (t := 151) rfl rfl (by omega) (fun (h22 : (256 * (m.1 47 0 (((24 * q) + 2).toNat))) + (m.1 47 0 (((24 * q) + 3).toNat)) < m.1 50 0 ((4 * (m.1 47 0 (((24 * q) + 1).toNat))).toNat)) => ?_) (fun (h22 : ¬ ((256 * (m.1 47 0 (((24 * q) + 2).toNat))) + (m.1 47 0 (((24 * q) + 3).toNat)) < m.1 50 0 ((4 * (m.1 47 0 (((24 * q) + 1).toNat))).toNat))) => ?_)
                · show wW (zK sc) zM186 151 [(5, .inl (m.1 47 0 (((24 * q) + 7).toNat))), (4, .inl ((256 * (m.1 47 0 (((24 * q) + 2).toNat))) + (m.1 47 0 (((24 * q) + 3).toNat)))), (3, .inl (m.1 47 0 (((24 * q) + 1).toNat))), (2, .inl (24 * q)), (0, .inr (.inr (.inl (some (34, 0))))), (1, .inl q)] [] _ _ _
                  refine ww_go 1 (pc' := 152) (L' := [(5, .inl (m.1 47 0 (((24 * q) + 7).toNat))), (4, .inl ((256 * (m.1 47 0 (((24 * q) + 2).toNat))) + (m.1 47 0 (((24 * q) + 3).toNat)))), (3, .inl (m.1 47 0 (((24 * q) + 1).toNat))), (2, .inl (24 * q)), (0, .inr (.inr (.inl (some (34, 0))))), (1, .inl q)]) (st' := [.inl 0]) (m' := m) (o := none) rfl trivial ?_
                  exact ww_rB rfl rfl (by omega) ⟨_, rfl, rfl, rfl, by omega⟩
                · show wW (zK sc) zM186 147 [(5, .inl (m.1 47 0 (((24 * q) + 7).toNat))), (4, .inl ((256 * (m.1 47 0 (((24 * q) + 2).toNat))) + (m.1 47 0 (((24 * q) + 3).toNat)))), (3, .inl (m.1 47 0 (((24 * q) + 1).toNat))), (2, .inl (24 * q)), (0, .inr (.inr (.inl (some (34, 0))))), (1, .inl q)] [] _ _ _
                  refine ww_go 2 (pc' := 152) (L' := [(5, .inl (m.1 47 0 (((24 * q) + 7).toNat))), (4, .inl ((256 * (m.1 47 0 (((24 * q) + 2).toNat))) + (m.1 47 0 (((24 * q) + 3).toNat)))), (3, .inl (m.1 47 0 (((24 * q) + 1).toNat))), (2, .inl (24 * q)), (0, .inr (.inr (.inl (some (34, 0))))), (1, .inl q)]) (st' := [.inl 1]) (m' := m) (o := none) rfl trivial ?_
                  exact ww_rB rfl rfl (by omega) ⟨_, rfl, rfl, rfl, by omega⟩
          · show wW (zK sc) zM186 94 [(5, .inl (m.1 47 0 (((24 * q) + 7).toNat))), (4, .inl ((256 * (m.1 47 0 (((24 * q) + 2).toNat))) + (m.1 47 0 (((24 * q) + 3).toNat)))), (3, .inl (m.1 47 0 (((24 * q) + 1).toNat))), (2, .inl (24 * q)), (0, .inr (.inr (.inl (some (34, 0))))), (1, .inl q)] [] _ _ _
            refine ww_go 1 (pc' := 95) (L' := [(5, .inl (m.1 47 0 (((24 * q) + 7).toNat))), (4, .inl ((256 * (m.1 47 0 (((24 * q) + 2).toNat))) + (m.1 47 0 (((24 * q) + 3).toNat)))), (3, .inl (m.1 47 0 (((24 * q) + 1).toNat))), (2, .inl (24 * q)), (0, .inr (.inr (.inl (some (34, 0))))), (1, .inl q)]) (st' := [.inl 0]) (m' := m) (o := none) rfl trivial ?_
            exact ww_rB rfl rfl (by omega) ⟨_, rfl, rfl, rfl, by omega⟩
set_option maxRecDepth 8000 in
/-- Mo.rule -/
theorem zs241 {sc : xSc} {n : Nat × Nat} {m0 : wm} {c : Int} (hc : 0 ≤ c ∧ c ≤ 1000000) (x : Int) (y : Int) (b : Int) (hG : zB c m0) (h0 : -2147483648 ≤ x ∧ x ≤ 2147483647 ∧ -2147483648 ≤ y ∧ y ≤ 2147483647 ∧ 0 ≤ b ∧ b ≤ 1) : wX (zK sc) 241 [.inr (.inr (.inl (some (34, 0)))), .inl x, .inl y, .inl b] n m0 (wr (fun vv n1 m1 => vv = none ∧ n = n1 ∧ zB c m1 ∧ zfr (fun k i j => (k = 34 ∧ j = 0) ∨ (k = 34 ∧ j = 36) ∨ (k = 34 ∧ j = 37) ∨ (k = 62) ∨ (k = 63)) m0 m1 ∧ ((m1.1 34 0 0 = 1 ∧ ¬ (x = 0 ∧ 0 ≤ y ∧ y ≤ 96 ∨ x = 1 ∧ 0 ≤ y ∧ y ≤ 6 ∨ (x = 2 ∨ x = 3) ∧ 0 ≤ y ∧ y ≤ 255)) ∨ (m1.1 34 0 0 = 0 ∧ (x = 0 ∧ 0 ≤ y ∧ y ≤ 96 ∨ x = 1 ∧ 0 ≤ y ∧ y ≤ 6 ∨ (x = 2 ∨ x = 3) ∧ 0 ≤ y ∧ y ≤ 255))))) := by
  refine wX_of (N := zM241) rfl (Nat.le_of_ble_eq_true rfl) ?_
  show wW (zK sc) zM241 0 [(0, .inr (.inr (.inl (some (34, 0))))), (1, .inl x), (2, .inl y), (3, .inl b)] [] n m0 _
  have hF : zfr (fun k i j => (k = 34 ∧ j = 0) ∨ (k = 34 ∧ j = 36) ∨ (k = 34 ∧ j = 37) ∨ (k = 62) ∨ (k = 63)) m0 m0 := zfr_rf
  refine ww_go 1 (pc' := 1) (L' := [(0, .inr (.inr (.inl (some (34, 0))))), (1, .inl x), (2, .inl y), (3, .inl b)]) (st' := [.inl x]) (m' := m0) (o := none) rfl trivial ?_
  refine ww_if (t := 9) rfl rfl (by omega) (fun (h1 : x ≠ 0) => ?_) (fun (h1 : ¬ (x ≠ 0)) => ?_)
  · show wW (zK sc) zM241 9 [(0, .inr (.inr (.inl (some (34, 0))))), (1, .inl x), (2, .inl y), (3, .inl b)] [] _ _ _
    refine ww_go 2 (pc' := 11) (L' := [(0, .inr (.inr (.inl (some (34, 0))))), (1, .inl x), (2, .inl y), (3, .inl b)]) (st' := [.inl 1, .inl x]) (m' := m0) (o := none) rfl trivial ?_
    refine ww_ic (t := 19) rfl rfl (by omega) (fun (h2 : x ≠ 1) => ?_) (fun (h2 : ¬ (x ≠ 1)) => ?_)
    · show wW (zK sc) zM241 19 [(0, .inr (.inr (.inl (some (34, 0))))), (1, .inl x), (2, .inl y), (3, .inl b)] [] _ _ _
      refine ww_go 6 (pc' := 28) (L' := [(4, .inl 255), (0, .inr (.inr (.inl (some (34, 0))))), (1, .inl x), (2, .inl y), (3, .inl b)]) (st' := [.inl 3, .inl 0, .inl x, .inr (.inr (.inl (some (34, 0))))]) (m' := m0) (o := none) rfl trivial ?_
      refine ww_call (vs := [.inl x, .inl 0, .inl 3]) (r := [.inr (.inr (.inl (some (34, 0))))]) (p := True) rfl rfl rfl rfl trivial (zs207 x 0 3 (by omega)) ?_
      rintro _ _ _ ⟨r3, rfl, rfl, rfl, hr4⟩
      show wW (zK sc) zM241 31 [(4, .inl 255), (0, .inr (.inr (.inl (some (34, 0))))), (1, .inl x), (2, .inl y), (3, .inl b)] [.inl r3, .inr (.inr (.inl (some (34, 0))))] _ _ _
      refine ww_if (t := 44) rfl rfl (by omega) (fun (h5 : r3 = 0) => ?_) (fun (h5 : ¬ (r3 = 0)) => ?_)
      · show wW (zK sc) zM241 44 [(4, .inl 255), (0, .inr (.inr (.inl (some (34, 0))))), (1, .inl x), (2, .inl y), (3, .inl b)] [.inr (.inr (.inl (some (34, 0))))] _ _ _
        refine ww_go 3 (pc' := 50) (L' := [(4, .inl 255), (0, .inr (.inr (.inl (some (34, 0))))), (1, .inl x), (2, .inl y), (3, .inl b)]) (st' := [.inl 1, .inl 1, .inr (.inr (.inl (some (34, 0))))]) (m' := m0) (o := none) rfl trivial ?_
        refine ww_call (vs := [.inr (.inr (.inl (some (34, 0)))), .inl 1, .inl 1]) (r := []) (p := 0 < 1) rfl rfl rfl rfl (show 0 < 1 from by omega) (zs196 (c := c) (by omega) 1 1 hG (by omega)) ?_
        rintro _ _ m8 ⟨r6, rfl, rfl, hGm8, hEm8, hr7⟩
        have hFm8 : zfr (fun k i j => (k = 34 ∧ j = 0) ∨ (k = 34 ∧ j = 36) ∨ (k = 34 ∧ j = 37) ∨ (k = 62) ∨ (k = 63)) m0 m8 := zfr_tr hF hEm8 (fun k i j z => Or.inl z)
        show wW (zK sc) zM241 53 [(4, .inl 255), (0, .inr (.inr (.inl (some (34, 0))))), (1, .inl x), (2, .inl y), (3, .inl b)] [.inl r6] _ _ _
        refine ww_if (t := 57) rfl rfl (by omega) (fun (h9 : r6 = 0) => ?_) (fun (h9 : ¬ (r6 = 0)) => ?_)
        · show wW (zK sc) zM241 57 [(4, .inl 255), (0, .inr (.inr (.inl (some (34, 0))))), (1, .inl x), (2, .inl y), (3, .inl b)] [] _ _ _
          refine ww_go 1 (pc' := 58) (L' := [(4, .inl 255), (0, .inr (.inr (.inl (some (34, 0))))), (1, .inl x), (2, .inl y), (3, .inl b)]) (st' := [.inl x]) (m' := m8) (o := none) rfl trivial ?_
          refine ww_if (t := 77) rfl rfl (by omega) (fun (h10 : x ≠ 0) => ?_) (fun (h10 : ¬ (x ≠ 0)) => absurd (show x ≠ 0 from by omega) h10)
          show wW (zK sc) zM241 77 [(4, .inl 255), (0, .inr (.inr (.inl (some (34, 0))))), (1, .inl x), (2, .inl y), (3, .inl b)] [] _ _ _
          refine ww_go 2 (pc' := 79) (L' := [(4, .inl 255), (0, .inr (.inr (.inl (some (34, 0))))), (1, .inl x), (2, .inl y), (3, .inl b)]) (st' := [.inl 1, .inl x]) (m' := m8) (o := none) rfl trivial ?_
          refine ww_ic (t := 98) rfl rfl (by omega) (fun (h11 : x ≠ 1) => ?_) (fun (h11 : ¬ (x ≠ 1)) => absurd (show x ≠ 1 from by omega) h11)
          show wW (zK sc) zM241 98 [(4, .inl 255), (0, .inr (.inr (.inl (some (34, 0))))), (1, .inl x), (2, .inl y), (3, .inl b)] [] _ _ _
          refine ww_go 2 (pc' := 100) (L' := [(4, .inl 255), (0, .inr (.inr (.inl (some (34, 0))))), (1, .inl x), (2, .inl y), (3, .inl b)]) (st' := [.inl 2, .inl x]) (m' := m8) (o := none) rfl trivial ?_
          refine ww_ic (t := 113) rfl rfl (by omega) (fun (h12 : x ≠ 2) => ?_) (fun (h12 : ¬ (x ≠ 2)) => ?_)
          · show wW (zK sc) zM241 113 [(4, .inl 255), (0, .inr (.inr (.inl (some (34, 0))))), (1, .inl x), (2, .inl y), (3, .inl b)] [] _ _ _
            refine ww_go 5 (pc' := 120) (L' := [(4, .inl 255), (0, .inr (.inr (.inl (some (34, 0))))), (1, .inl x), (2, .inl y), (3, .inl b)]) (st' := []) (m' := wuI m8 63 0 y.toNat b) (o := some ((0 < 1) ∧ (0 < 1 ∧ 0 ≤ y ∧ y < ((256 : Nat) : Int) ∧ 0 ≤ b ∧ b ≤ 1))) rfl (show (0 < 1) ∧ (0 < 1 ∧ 0 ≤ y ∧ y < ((256 : Nat) : Int) ∧ 0 ≤ b ∧ b ≤ 1) from by omega) ?_
            obtain ⟨m13, hm13⟩ : ∃ zq9 : wm, zq9 = wuI m8 63 0 y.toNat b := ⟨_, rfl⟩
            rw [← hm13]
            have hGm13 : zB c m13 := by rw [hm13]; exact zB_wI rfl (show 0 ≤ b ∧ b ≤ 1 from by omega) hGm8
            have hFm13 : zfr (fun k i j => (k = 34 ∧ j = 0) ∨ (k = 34 ∧ j = 36) ∨ (k = 34 ∧ j = 37) ∨ (k = 62) ∨ (k = 63)) m0 m13 := by rw [hm13]; exact zfr_wI hFm8 (show (63 = 34 ∧ y.toNat = 0) ∨ (63 = 34 ∧ y.toNat = 36) ∨ (63 = 34 ∧ y.toNat = 37) ∨ (63 = 62) ∨ (63 = 63) from Or.inr (Or.inr (Or.inr (Or.inr (rfl)))))
            have s14 : m13.1 63 0 y.toNat = b := by rw [hm13]; exact wuI_self
            have w15 : m13.1 34 0 0 = m8.1 34 0 0 := by rw [hm13]; rfl
            exact ww_rV rfl rfl ⟨rfl, rfl, zB_mono hGm13 (by omega), hFm13, by omega⟩
          · show wW (zK sc) zM241 103 [(4, .inl 255), (0, .inr (.inr (.inl (some (34, 0))))), (1, .inl x), (2, .inl y), (3, .inl b)] [] _ _ _
            refine ww_go 5 (pc' := 110) (L' := [(4, .inl 255), (0, .inr (.inr (.inl (some (34, 0))))), (1, .inl x), (2, .inl y), (3, .inl b)]) (st' := []) (m' := wuI m8 62 0 y.toNat b) (o := some ((0 < 1) ∧ (0 < 1 ∧ 0 ≤ y ∧ y < ((256 : Nat) : Int) ∧ 0 ≤ b ∧ b ≤ 1))) rfl (show (0 < 1) ∧ (0 < 1 ∧ 0 ≤ y ∧ y < ((256 : Nat) : Int) ∧ 0 ≤ b ∧ b ≤ 1) from by omega) ?_
            obtain ⟨m16, hm16⟩ : ∃ zq9 : wm, zq9 = wuI m8 62 0 y.toNat b := ⟨_, rfl⟩
            rw [← hm16]
            have hGm16 : zB c m16 := by rw [hm16]; exact zB_wI rfl (show 0 ≤ b ∧ b ≤ 1 from by omega) hGm8
            have hFm16 : zfr (fun k i j => (k = 34 ∧ j = 0) ∨ (k = 34 ∧ j = 36) ∨ (k = 34 ∧ j = 37) ∨ (k = 62) ∨ (k = 63)) m0 m16 := by rw [hm16]; exact zfr_wI hFm8 (show (62 = 34 ∧ y.toNat = 0) ∨ (62 = 34 ∧ y.toNat = 36) ∨ (62 = 34 ∧ y.toNat = 37) ∨ (62 = 62) ∨ (62 = 63) from Or.inr (Or.inr (Or.inr (Or.inl rfl))))
            have s17 : m16.1 62 0 y.toNat = b := by rw [hm16]; exact wuI_self
            have w18 : m16.1 34 0 0 = m8.1 34 0 0 := by rw [hm16]; rfl
            refine ww_go 1 (pc' := 120) (L' := [(4, .inl 255), (0, .inr (.inr (.inl (some (34, 0))))), (1, .inl x), (2, .inl y), (3, .inl b)]) (st' := []) (m' := m16) (o := none) rfl trivial ?_
            exact ww_rV rfl rfl ⟨rfl, rfl, zB_mono hGm16 (by omega), hFm16, by omega⟩
        · show wW (zK sc) zM241 56 [(4, .inl 255), (0, .inr (.inr (.inl (some (34, 0))))), (1, .inl x), (2, .inl y), (3, .inl b)] [] _ _ _
          exact ww_rV rfl rfl ⟨rfl, rfl, zB_mono hGm8 (by omega), hFm8, by omega⟩
      · show wW (zK sc) zM241 34 [(4, .inl 255), (0, .inr (.inr (.inl (some (34, 0))))), (1, .inl x), (2, .inl y), (3, .inl b)] [.inr (.inr (.inl (some (34, 0))))] _ _ _
        refine ww_go 3 (pc' := 38) (L' := [(4, .inl 255), (0, .inr (.inr (.inl (some (34, 0))))), (1, .inl x), (2, .inl y), (3, .inl b)]) (st' := [.inl 255, .inl 0, .inl y, .inr (.inr (.inl (some (34, 0))))]) (m' := m0) (o := none) rfl trivial ?_
        refine ww_call (vs := [.inl y, .inl 0, .inl 255]) (r := [.inr (.inr (.inl (some (34, 0))))]) (p := True) rfl rfl rfl rfl trivial (zs207 y 0 255 (by omega)) ?_
        rintro _ _ _ ⟨r19, rfl, rfl, rfl, hr20⟩
        show wW (zK sc) zM241 41 [(4, .inl 255), (0, .inr (.inr (.inl (some (34, 0))))), (1, .inl x), (2, .inl y), (3, .inl b)] [.inl r19, .inr (.inr (.inl (some (34, 0))))] _ _ _
        refine ww_if (t := 48) rfl rfl (by omega) (fun (h21 : r19 ≠ 0) => ?_) (fun (h21 : ¬ (r19 ≠ 0)) => ?_)
        · show wW (zK sc) zM241 48 [(4, .inl 255), (0, .inr (.inr (.inl (some (34, 0))))), (1, .inl x), (2, .inl y), (3, .inl b)] [.inr (.inr (.inl (some (34, 0))))] _ _ _
          refine ww_go 2 (pc' := 50) (L' := [(4, .inl 255), (0, .inr (.inr (.inl (some (34, 0))))), (1, .inl x), (2, .inl y), (3, .inl b)]) (st' := [.inl 1, .inl 0, .inr (.inr (.inl (some (34, 0))))]) (m' := m0) (o := none) rfl trivial ?_
          refine ww_call (vs := [.inr (.inr (.inl (some (34, 0)))), .inl 0, .inl 1]) (r := []) (p := 0 < 1) rfl rfl rfl rfl (show 0 < 1 from by omega) (zs196 (c := c) (by omega) 0 1 hG (by omega)) ?_
          rintro _ _ m24 ⟨r22, rfl, rfl, hGm24, hEm24, hr23⟩
          have hFm24 : zfr (fun k i j => (k = 34 ∧ j = 0) ∨ (k = 34 ∧ j = 36) ∨ (k = 34 ∧ j = 37) ∨ (k = 62) ∨ (k = 63)) m0 m24 := zfr_tr hF hEm24 (fun k i j z => Or.inl z)
          show wW (zK sc) zM241 53 [(4, .inl 255), (0, .inr (.inr (.inl (some (34, 0))))), (1, .inl x), (2, .inl y), (3, .inl b)] [.inl r22] _ _ _
          refine ww_if (t := 57) rfl rfl (by omega) (fun (h25 : r22 = 0) => ?_) (fun (h25 : ¬ (r22 = 0)) => ?_)
          · show wW (zK sc) zM241 57 [(4, .inl 255), (0, .inr (.inr (.inl (some (34, 0))))), (1, .inl x), (2, .inl y), (3, .inl b)] [] _ _ _
            refine ww_go 1 (pc' := 58) (L' := [(4, .inl 255), (0, .inr (.inr (.inl (some (34, 0))))), (1, .inl x), (2, .inl y), (3, .inl b)]) (st' := [.inl x]) (m' := m24) (o := none) rfl trivial ?_
            refine ww_if (t := 77) rfl rfl (by omega) (fun (h26 : x ≠ 0) => ?_) (fun (h26 : ¬ (x ≠ 0)) => absurd (show x ≠ 0 from by omega) h26)
            show wW (zK sc) zM241 77 [(4, .inl 255), (0, .inr (.inr (.inl (some (34, 0))))), (1, .inl x), (2, .inl y), (3, .inl b)] [] _ _ _
            refine ww_go 2 (pc' := 79) (L' := [(4, .inl 255), (0, .inr (.inr (.inl (some (34, 0))))), (1, .inl x), (2, .inl y), (3, .inl b)]) (st' := [.inl 1, .inl x]) (m' := m24) (o := none) rfl trivial ?_
            refine ww_ic (t := 98) rfl rfl (by omega) (fun (h27 : x ≠ 1) => ?_) (fun (h27 : ¬ (x ≠ 1)) => absurd (show x ≠ 1 from by omega) h27)
            show wW (zK sc) zM241 98 [(4, .inl 255), (0, .inr (.inr (.inl (some (34, 0))))), (1, .inl x), (2, .inl y), (3, .inl b)] [] _ _ _
            refine ww_go 2 (pc' := 100) (L' := [(4, .inl 255), (0, .inr (.inr (.inl (some (34, 0))))), (1, .inl x), (2, .inl y), (3, .inl b)]) (st' := [.inl 2, .inl x]) (m' := m24) (o := none) rfl trivial ?_
            refine ww_ic (t := 113) rfl rfl (by omega) (fun (h28 : x ≠ 2) => ?_) (fun (h28 : ¬ (x ≠ 2)) => ?_)
            · show wW (zK sc) zM241 113 [(4, .inl 255), (0, .inr (.inr (.inl (some (34, 0))))), (1, .inl x), (2, .inl y), (3, .inl b)] [] _ _ _
              refine ww_go 5 (pc' := 120) (L' := [(4, .inl 255), (0, .inr (.inr (.inl (some (34, 0))))), (1, .inl x), (2, .inl y), (3, .inl b)]) (st' := []) (m' := wuI m24 63 0 y.toNat b) (o := some ((0 < 1) ∧ (0 < 1 ∧ 0 ≤ y ∧ y < ((256 : Nat) : Int) ∧ 0 ≤ b ∧ b ≤ 1))) rfl (show (0 < 1) ∧ (0 < 1 ∧ 0 ≤ y ∧ y < ((256 : Nat) : Int) ∧ 0 ≤ b ∧ b ≤ 1) from by omega) ?_
              obtain ⟨m29, hm29⟩ : ∃ zq9 : wm, zq9 = wuI m24 63 0 y.toNat b := ⟨_, rfl⟩
              rw [← hm29]
              have hGm29 : zB c m29 := by rw [hm29]; exact zB_wI rfl (show 0 ≤ b ∧ b ≤ 1 from by omega) hGm24
              have hFm29 : zfr (fun k i j => (k = 34 ∧ j = 0) ∨ (k = 34 ∧ j = 36) ∨ (k = 34 ∧ j = 37) ∨ (k = 62) ∨ (k = 63)) m0 m29 := by rw [hm29]; exact zfr_wI hFm24 (show (63 = 34 ∧ y.toNat = 0) ∨ (63 = 34 ∧ y.toNat = 36) ∨ (63 = 34 ∧ y.toNat = 37) ∨ (63 = 62) ∨ (63 = 63) from Or.inr (Or.inr (Or.inr (Or.inr (rfl)))))
              have s30 : m29.1 63 0 y.toNat = b := by rw [hm29]; exact wuI_self
              have w31 : m29.1 34 0 0 = m24.1 34 0 0 := by rw [hm29]; rfl
              exact ww_rV rfl rfl ⟨rfl, rfl, zB_mono hGm29 (by omega), hFm29, by omega⟩
            · show wW (zK sc) zM241 103 [(4, .inl 255), (0, .inr (.inr (.inl (some (34, 0))))), (1, .inl x), (2, .inl y), (3, .inl b)] [] _ _ _
              refine ww_go 5 (pc' := 110) (L' := [(4, .inl 255), (0, .inr (.inr (.inl (some (34, 0))))), (1, .inl x), (2, .inl y), (3, .inl b)]) (st' := []) (m' := wuI m24 62 0 y.toNat b) (o := some ((0 < 1) ∧ (0 < 1 ∧ 0 ≤ y ∧ y < ((256 : Nat) : Int) ∧ 0 ≤ b ∧ b ≤ 1))) rfl (show (0 < 1) ∧ (0 < 1 ∧ 0 ≤ y ∧ y < ((256 : Nat) : Int) ∧ 0 ≤ b ∧ b ≤ 1) from by omega) ?_
              obtain ⟨m32, hm32⟩ : ∃ zq9 : wm, zq9 = wuI m24 62 0 y.toNat b := ⟨_, rfl⟩
              rw [← hm32]
              have hGm32 : zB c m32 := by rw [hm32]; exact zB_wI rfl (show 0 ≤ b ∧ b ≤ 1 from by omega) hGm24
              have hFm32 : zfr (fun k i j => (k = 34 ∧ j = 0) ∨ (k = 34 ∧ j = 36) ∨ (k = 34 ∧ j = 37) ∨ (k = 62) ∨ (k = 63)) m0 m32 := by rw [hm32]; exact zfr_wI hFm24 (show (62 = 34 ∧ y.toNat = 0) ∨ (62 = 34 ∧ y.toNat = 36) ∨ (62 = 34 ∧ y.toNat = 37) ∨ (62 = 62) ∨ (62 = 63) from Or.inr (Or.inr (Or.inr (Or.inl rfl))))
              have s33 : m32.1 62 0 y.toNat = b := by rw [hm32]; exact wuI_self
              have w34 : m32.1 34 0 0 = m24.1 34 0 0 := by rw [hm32]; rfl
              refine ww_go 1 (pc' := 120) (L' := [(4, .inl 255), (0, .inr (.inr (.inl (some (34, 0))))), (1, .inl x), (2, .inl y), (3, .inl b)]) (st' := []) (m' := m32) (o := none) rfl trivial ?_
              exact ww_rV rfl rfl ⟨rfl, rfl, zB_mono hGm32 (by omega), hFm32, by omega⟩
          · show wW (zK sc) zM241 56 [(4, .inl 255), (0, .inr (.inr (.inl (some (34, 0))))), (1, .inl x), (2, .inl y), (3, .inl b)] [] _ _ _
            exact ww_rV rfl rfl ⟨rfl, rfl, zB_mono hGm24 (by omega), hFm24, by omega⟩
        · show wW (zK sc) zM241 44 [(4, .inl 255), (0, .inr (.inr (.inl (some (34, 0))))), (1, .inl x), (2, .inl y), (3, .inl b)] [.inr (.inr (.inl (some (34, 0))))] _ _ _
          refine ww_go 3 (pc' := 50) (L' := [(4, .inl 255), (0, .inr (.inr (.inl (some (34, 0))))), (1, .inl x), (2, .inl y), (3, .inl b)]) (st' := [.inl 1, .inl 1, .inr (.inr (.inl (some (34, 0))))]) (m' := m0) (o := none) rfl trivial ?_
          refine ww_call (vs := [.inr (.inr (.inl (some (34, 0)))), .inl 1, .inl 1]) (r := []) (p := 0 < 1) rfl rfl rfl rfl (show 0 < 1 from by omega) (zs196 (c := c) (by omega) 1 1 hG (by omega)) ?_
          rintro _ _ m37 ⟨r35, rfl, rfl, hGm37, hEm37, hr36⟩
          have hFm37 : zfr (fun k i j => (k = 34 ∧ j = 0) ∨ (k = 34 ∧ j = 36) ∨ (k = 34 ∧ j = 37) ∨ (k = 62) ∨ (k = 63)) m0 m37 := zfr_tr hF hEm37 (fun k i j z => Or.inl z)
          show wW (zK sc) zM241 53 [(4, .inl 255), (0, .inr (.inr (.inl (some (34, 0))))), (1, .inl x), (2, .inl y), (3, .inl b)] [.inl r35] _ _ _
          refine ww_if (t := 57) rfl rfl (by omega) (fun (h38 : r35 = 0) => ?_) (fun (h38 : ¬ (r35 = 0)) => ?_)
          · show wW (zK sc) zM241 57 [(4, .inl 255), (0, .inr (.inr (.inl (some (34, 0))))), (1, .inl x), (2, .inl y), (3, .inl b)] [] _ _ _
            refine ww_go 1 (pc' := 58) (L' := [(4, .inl 255), (0, .inr (.inr (.inl (some (34, 0))))), (1, .inl x), (2, .inl y), (3, .inl b)]) (st' := [.inl x]) (m' := m37) (o := none) rfl trivial ?_
            refine ww_if (t := 77) rfl rfl (by omega) (fun (h39 : x ≠ 0) => ?_) (fun (h39 : ¬ (x ≠ 0)) => absurd (show x ≠ 0 from by omega) h39)
            show wW (zK sc) zM241 77 [(4, .inl 255), (0, .inr (.inr (.inl (some (34, 0))))), (1, .inl x), (2, .inl y), (3, .inl b)] [] _ _ _
            refine ww_go 2 (pc' := 79) (L' := [(4, .inl 255), (0, .inr (.inr (.inl (some (34, 0))))), (1, .inl x), (2, .inl y), (3, .inl b)]) (st' := [.inl 1, .inl x]) (m' := m37) (o := none) rfl trivial ?_
            refine ww_ic (t := 98) rfl rfl (by omega) (fun (h40 : x ≠ 1) => ?_) (fun (h40 : ¬ (x ≠ 1)) => absurd (show x ≠ 1 from by omega) h40)
            show wW (zK sc) zM241 98 [(4, .inl 255), (0, .inr (.inr (.inl (some (34, 0))))), (1, .inl x), (2, .inl y), (3, .inl b)] [] _ _ _
            refine ww_go 2 (pc' := 100) (L' := [(4, .inl 255), (0, .inr (.inr (.inl (some (34, 0))))), (1, .inl x), (2, .inl y), (3, .inl b)]) (st' := [.inl 2, .inl x]) (m' := m37) (o := none) rfl trivial ?_
            refine ww_ic (t := 113) rfl rfl (by omega) (fun (h41 : x ≠ 2) => ?_) (fun (h41 : ¬ (x ≠ 2)) => ?_)
            · show wW (zK sc) zM241 113 [(4, .inl 255), (0, .inr (.inr (.inl (some (34, 0))))), (1, .inl x), (2, .inl y), (3, .inl b)] [] _ _ _
              refine ww_go 5 (pc' := 120) (L' := [(4, .inl 255), (0, .inr (.inr (.inl (some (34, 0))))), (1, .inl x), (2, .inl y), (3, .inl b)]) (st' := []) (m' := wuI m37 63 0 y.toNat b) (o := some ((0 < 1) ∧ (0 < 1 ∧ 0 ≤ y ∧ y < ((256 : Nat) : Int) ∧ 0 ≤ b ∧ b ≤ 1))) rfl (show (0 < 1) ∧ (0 < 1 ∧ 0 ≤ y ∧ y < ((256 : Nat) : Int) ∧ 0 ≤ b ∧ b ≤ 1) from by omega) ?_
              obtain ⟨m42, hm42⟩ : ∃ zq9 : wm, zq9 = wuI m37 63 0 y.toNat b := ⟨_, rfl⟩
              rw [← hm42]
              have hGm42 : zB c m42 := by rw [hm42]; exact zB_wI rfl (show 0 ≤ b ∧ b ≤ 1 from by omega) hGm37
              have hFm42 : zfr (fun k i j => (k = 34 ∧ j = 0) ∨ (k = 34 ∧ j = 36) ∨ (k = 34 ∧ j = 37) ∨ (k = 62) ∨ (k = 63)) m0 m42 := by rw [hm42]; exact zfr_wI hFm37 (show (63 = 34 ∧ y.toNat = 0) ∨ (63 = 34 ∧ y.toNat = 36) ∨ (63 = 34 ∧ y.toNat = 37) ∨ (63 = 62) ∨ (63 = 63) from Or.inr (Or.inr (Or.inr (Or.inr (rfl)))))
              have s43 : m42.1 63 0 y.toNat = b := by rw [hm42]; exact wuI_self
              have w44 : m42.1 34 0 0 = m37.1 34 0 0 := by rw [hm42]; rfl
              exact ww_rV rfl rfl ⟨rfl, rfl, zB_mono hGm42 (by omega), hFm42, by omega⟩
            · show wW (zK sc) zM241 103 [(4, .inl 255), (0, .inr (.inr (.inl (some (34, 0))))), (1, .inl x), (2, .inl y), (3, .inl b)] [] _ _ _
              refine ww_go 5 (pc' := 110) (L' := [(4, .inl 255), (0, .inr (.inr (.inl (some (34, 0))))), (1, .inl x), (2, .inl y), (3, .inl b)]) (st' := []) (m' := wuI m37 62 0 y.toNat b) (o := some ((0 < 1) ∧ (0 < 1 ∧ 0 ≤ y ∧ y < ((256 : Nat) : Int) ∧ 0 ≤ b ∧ b ≤ 1))) rfl (show (0 < 1) ∧ (0 < 1 ∧ 0 ≤ y ∧ y < ((256 : Nat) : Int) ∧ 0 ≤ b ∧ b ≤ 1) from by omega) ?_
              obtain ⟨m45, hm45⟩ : ∃ zq9 : wm, zq9 = wuI m37 62 0 y.toNat b := ⟨_, rfl⟩
              rw [← hm45]
              have hGm45 : zB c m45 := by rw [hm45]; exact zB_wI rfl (show 0 ≤ b ∧ b ≤ 1 from by omega) hGm37
              have hFm45 : zfr (fun k i j => (k = 34 ∧ j = 0) ∨ (k = 34 ∧ j = 36) ∨ (k = 34 ∧ j = 37) ∨ (k = 62) ∨ (k = 63)) m0 m45 := by rw [hm45]; exact zfr_wI hFm37 (show (62 = 34 ∧ y.toNat = 0) ∨ (62 = 34 ∧ y.toNat = 36) ∨ (62 = 34 ∧ y.toNat = 37) ∨ (62 = 62) ∨ (62 = 63) from Or.inr (Or.inr (Or.inr (Or.inl rfl))))
              have s46 : m45.1 62 0 y.toNat = b := by rw [hm45]; exact wuI_self
              have w47 : m45.1 34 0 0 = m37.1 34 0 0 := by rw [hm45]; rfl
              refine ww_go 1 (pc' := 120) (L' := [(4, .inl 255), (0, .inr (.inr (.inl (some (34, 0))))), (1, .inl x), (2, .inl y), (3, .inl b)]) (st' := []) (m' := m45) (o := none) rfl trivial ?_
              exact ww_rV rfl rfl ⟨rfl, rfl, zB_mono hGm45 (by omega), hFm45, by omega⟩
          · show wW (zK sc) zM241 56 [(4, .inl 255), (0, .inr (.inr (.inl (some (34, 0))))), (1, .inl x), (2, .inl y), (3, .inl b)] [] _ _ _
            exact ww_rV rfl rfl ⟨rfl, rfl, zB_mono hGm37 (by omega), hFm37, by omega⟩
    · show wW (zK sc) zM241 14 [(0, .inr (.inr (.inl (some (34, 0))))), (1, .inl x), (2, .inl y), (3, .inl b)] [] _ _ _
      refine ww_go 7 (pc' := 28) (L' := [(4, .inl 6), (0, .inr (.inr (.inl (some (34, 0))))), (1, .inl x), (2, .inl y), (3, .inl b)]) (st' := [.inl 3, .inl 0, .inl x, .inr (.inr (.inl (some (34, 0))))]) (m' := m0) (o := none) rfl trivial ?_
      refine ww_call (vs := [.inl x, .inl 0, .inl 3]) (r := [.inr (.inr (.inl (some (34, 0))))]) (p := True) rfl rfl rfl rfl trivial (zs207 x 0 3 (by omega)) ?_
      rintro _ _ _ ⟨r48, rfl, rfl, rfl, hr49⟩
      show wW (zK sc) zM241 31 [(4, .inl 6), (0, .inr (.inr (.inl (some (34, 0))))), (1, .inl x), (2, .inl y), (3, .inl b)] [.inl r48, .inr (.inr (.inl (some (34, 0))))] _ _ _
      refine ww_if (t := 44) rfl rfl (by omega) (fun (h50 : r48 = 0) => ?_) (fun (h50 : ¬ (r48 = 0)) => ?_)
      · show wW (zK sc) zM241 44 [(4, .inl 6), (0, .inr (.inr (.inl (some (34, 0))))), (1, .inl x), (2, .inl y), (3, .inl b)] [.inr (.inr (.inl (some (34, 0))))] _ _ _
        refine ww_go 3 (pc' := 50) (L' := [(4, .inl 6), (0, .inr (.inr (.inl (some (34, 0))))), (1, .inl x), (2, .inl y), (3, .inl b)]) (st' := [.inl 1, .inl 1, .inr (.inr (.inl (some (34, 0))))]) (m' := m0) (o := none) rfl trivial ?_
        refine ww_call (vs := [.inr (.inr (.inl (some (34, 0)))), .inl 1, .inl 1]) (r := []) (p := 0 < 1) rfl rfl rfl rfl (show 0 < 1 from by omega) (zs196 (c := c) (by omega) 1 1 hG (by omega)) ?_
        rintro _ _ m53 ⟨r51, rfl, rfl, hGm53, hEm53, hr52⟩
        have hFm53 : zfr (fun k i j => (k = 34 ∧ j = 0) ∨ (k = 34 ∧ j = 36) ∨ (k = 34 ∧ j = 37) ∨ (k = 62) ∨ (k = 63)) m0 m53 := zfr_tr hF hEm53 (fun k i j z => Or.inl z)
        show wW (zK sc) zM241 53 [(4, .inl 6), (0, .inr (.inr (.inl (some (34, 0))))), (1, .inl x), (2, .inl y), (3, .inl b)] [.inl r51] _ _ _
        refine ww_if (t := 57) rfl rfl (by omega) (fun (h54 : r51 = 0) => ?_) (fun (h54 : ¬ (r51 = 0)) => ?_)
        · show wW (zK sc) zM241 57 [(4, .inl 6), (0, .inr (.inr (.inl (some (34, 0))))), (1, .inl x), (2, .inl y), (3, .inl b)] [] _ _ _
          refine ww_go 1 (pc' := 58) (L' := [(4, .inl 6), (0, .inr (.inr (.inl (some (34, 0))))), (1, .inl x), (2, .inl y), (3, .inl b)]) (st' := [.inl x]) (m' := m53) (o := none) rfl trivial ?_
          refine ww_if (t := 77) rfl rfl (by omega) (fun (h55 : x ≠ 0) => ?_) (fun (h55 : ¬ (x ≠ 0)) => absurd (show x ≠ 0 from by omega) h55)
          show wW (zK sc) zM241 77 [(4, .inl 6), (0, .inr (.inr (.inl (some (34, 0))))), (1, .inl x), (2, .inl y), (3, .inl b)] [] _ _ _
          refine ww_go 2 (pc' := 79) (L' := [(4, .inl 6), (0, .inr (.inr (.inl (some (34, 0))))), (1, .inl x), (2, .inl y), (3, .inl b)]) (st' := [.inl 1, .inl x]) (m' := m53) (o := none) rfl trivial ?_
          refine ww_ic (t := 98) rfl rfl (by omega) (fun (h56 : x ≠ 1) => absurd h56 (by omega)) (fun (h56 : ¬ (x ≠ 1)) => ?_)
          show wW (zK sc) zM241 82 [(4, .inl 6), (0, .inr (.inr (.inl (some (34, 0))))), (1, .inl x), (2, .inl y), (3, .inl b)] [] _ _ _
          refine ww_go 2 (pc' := 84) (L' := [(4, .inl 6), (0, .inr (.inr (.inl (some (34, 0))))), (1, .inl x), (2, .inl y), (3, .inl b)]) (st' := [.inl b, .inr (.inr (.inl (some (34, 0))))]) (m' := m53) (o := none) rfl trivial ?_
          refine ww_if (t := 91) rfl rfl (by omega) (fun (h57 : b = 0) => ?_) (fun (h57 : ¬ (b = 0)) => ?_)
          · show wW (zK sc) zM241 91 [(4, .inl 6), (0, .inr (.inr (.inl (some (34, 0))))), (1, .inl x), (2, .inl y), (3, .inl b)] [.inr (.inr (.inl (some (34, 0))))] _ _ _
            refine ww_go 2 (pc' := 95) (L' := [(4, .inl 6), (0, .inr (.inr (.inl (some (34, 0))))), (1, .inl x), (2, .inl y), (3, .inl b)]) (st' := []) (m' := wuI m53 34 0 37 ((-1))) (o := some ((0 < 1))) rfl (show (0 < 1) from by omega) ?_
            obtain ⟨m58, hm58⟩ : ∃ zq9 : wm, zq9 = wuI m53 34 0 37 ((-1)) := ⟨_, rfl⟩
            rw [← hm58]
            have hGm58 : zB c m58 := by rw [hm58]; exact zB_wI rfl (show (-1) ≤ ((-1) : Int) ∧ ((-1) : Int) ≤ 6 from by omega) hGm53
            have hFm58 : zfr (fun k i j => (k = 34 ∧ j = 0) ∨ (k = 34 ∧ j = 36) ∨ (k = 34 ∧ j = 37) ∨ (k = 62) ∨ (k = 63)) m0 m58 := by rw [hm58]; exact zfr_wI hFm53 (show (34 = 34 ∧ 37 = 0) ∨ (34 = 34 ∧ 37 = 36) ∨ (34 = 34 ∧ 37 = 37) ∨ (34 = 62) ∨ (34 = 63) from Or.inr (Or.inr (Or.inl (⟨rfl, rfl⟩))))
            have s59 : m58.1 34 0 37 = ((-1) : Int) := by rw [hm58]; exact wuI_self
            have w60 : m58.1 34 0 0 = m53.1 34 0 0 := by rw [hm58]; exact wuI_nj (by omega)
            refine ww_go 1 (pc' := 120) (L' := [(4, .inl 6), (0, .inr (.inr (.inl (some (34, 0))))), (1, .inl x), (2, .inl y), (3, .inl b)]) (st' := []) (m' := m58) (o := none) rfl trivial ?_
            exact ww_rV rfl rfl ⟨rfl, rfl, zB_mono hGm58 (by omega), hFm58, by omega⟩
          · show wW (zK sc) zM241 87 [(4, .inl 6), (0, .inr (.inr (.inl (some (34, 0))))), (1, .inl x), (2, .inl y), (3, .inl b)] [.inr (.inr (.inl (some (34, 0))))] _ _ _
            refine ww_go 3 (pc' := 95) (L' := [(4, .inl 6), (0, .inr (.inr (.inl (some (34, 0))))), (1, .inl x), (2, .inl y), (3, .inl b)]) (st' := []) (m' := wuI m53 34 0 37 y) (o := some ((0 < 1))) rfl (show (0 < 1) from by omega) ?_
            obtain ⟨m61, hm61⟩ : ∃ zq9 : wm, zq9 = wuI m53 34 0 37 y := ⟨_, rfl⟩
            rw [← hm61]
            have hGm61 : zB c m61 := by rw [hm61]; exact zB_wI rfl (show (-1) ≤ y ∧ y ≤ 6 from by omega) hGm53
            have hFm61 : zfr (fun k i j => (k = 34 ∧ j = 0) ∨ (k = 34 ∧ j = 36) ∨ (k = 34 ∧ j = 37) ∨ (k = 62) ∨ (k = 63)) m0 m61 := by rw [hm61]; exact zfr_wI hFm53 (show (34 = 34 ∧ 37 = 0) ∨ (34 = 34 ∧ 37 = 36) ∨ (34 = 34 ∧ 37 = 37) ∨ (34 = 62) ∨ (34 = 63) from Or.inr (Or.inr (Or.inl (⟨rfl, rfl⟩))))
            have s62 : m61.1 34 0 37 = y := by rw [hm61]; exact wuI_self
            have w63 : m61.1 34 0 0 = m53.1 34 0 0 := by rw [hm61]; exact wuI_nj (by omega)
            refine ww_go 1 (pc' := 120) (L' := [(4, .inl 6), (0, .inr (.inr (.inl (some (34, 0))))), (1, .inl x), (2, .inl y), (3, .inl b)]) (st' := []) (m' := m61) (o := none) rfl trivial ?_
            exact ww_rV rfl rfl ⟨rfl, rfl, zB_mono hGm61 (by omega), hFm61, by omega⟩
        · show wW (zK sc) zM241 56 [(4, .inl 6), (0, .inr (.inr (.inl (some (34, 0))))), (1, .inl x), (2, .inl y), (3, .inl b)] [] _ _ _
          exact ww_rV rfl rfl ⟨rfl, rfl, zB_mono hGm53 (by omega), hFm53, by omega⟩
      · show wW (zK sc) zM241 34 [(4, .inl 6), (0, .inr (.inr (.inl (some (34, 0))))), (1, .inl x), (2, .inl y), (3, .inl b)] [.inr (.inr (.inl (some (34, 0))))] _ _ _
        refine ww_go 3 (pc' := 38) (L' := [(4, .inl 6), (0, .inr (.inr (.inl (some (34, 0))))), (1, .inl x), (2, .inl y), (3, .inl b)]) (st' := [.inl 6, .inl 0, .inl y, .inr (.inr (.inl (some (34, 0))))]) (m' := m0) (o := none) rfl trivial ?_
        refine ww_call (vs := [.inl y, .inl 0, .inl 6]) (r := [.inr (.inr (.inl (some (34, 0))))]) (p := True) rfl rfl rfl rfl trivial (zs207 y 0 6 (by omega)) ?_
        rintro _ _ _ ⟨r64, rfl, rfl, rfl, hr65⟩
        show wW (zK sc) zM241 41 [(4, .inl 6), (0, .inr (.inr (.inl (some (34, 0))))), (1, .inl x), (2, .inl y), (3, .inl b)] [.inl r64, .inr (.inr (.inl (some (34, 0))))] _ _ _
        refine ww_if (t := 48) rfl rfl (by omega) (fun (h66 : r64 ≠ 0) => ?_) (fun (h66 : ¬ (r64 ≠ 0)) => ?_)
        · show wW (zK sc) zM241 48 [(4, .inl 6), (0, .inr (.inr (.inl (some (34, 0))))), (1, .inl x), (2, .inl y), (3, .inl b)] [.inr (.inr (.inl (some (34, 0))))] _ _ _
          refine ww_go 2 (pc' := 50) (L' := [(4, .inl 6), (0, .inr (.inr (.inl (some (34, 0))))), (1, .inl x), (2, .inl y), (3, .inl b)]) (st' := [.inl 1, .inl 0, .inr (.inr (.inl (some (34, 0))))]) (m' := m0) (o := none) rfl trivial ?_
          refine ww_call (vs := [.inr (.inr (.inl (some (34, 0)))), .inl 0, .inl 1]) (r := []) (p := 0 < 1) rfl rfl rfl rfl (show 0 < 1 from by omega) (zs196 (c := c) (by omega) 0 1 hG (by omega)) ?_
          rintro _ _ m69 ⟨r67, rfl, rfl, hGm69, hEm69, hr68⟩
          have hFm69 : zfr (fun k i j => (k = 34 ∧ j = 0) ∨ (k = 34 ∧ j = 36) ∨ (k = 34 ∧ j = 37) ∨ (k = 62) ∨ (k = 63)) m0 m69 := zfr_tr hF hEm69 (fun k i j z => Or.inl z)
          show wW (zK sc) zM241 53 [(4, .inl 6), (0, .inr (.inr (.inl (some (34, 0))))), (1, .inl x), (2, .inl y), (3, .inl b)] [.inl r67] _ _ _
          refine ww_if (t := 57) rfl rfl (by omega) (fun (h70 : r67 = 0) => ?_) (fun (h70 : ¬ (r67 = 0)) => ?_)
          · show wW (zK sc) zM241 57 [(4, .inl 6), (0, .inr (.inr (.inl (some (34, 0))))), (1, .inl x), (2, .inl y), (3, .inl b)] [] _ _ _
            refine ww_go 1 (pc' := 58) (L' := [(4, .inl 6), (0, .inr (.inr (.inl (some (34, 0))))), (1, .inl x), (2, .inl y), (3, .inl b)]) (st' := [.inl x]) (m' := m69) (o := none) rfl trivial ?_
            refine ww_if (t := 77) rfl rfl (by omega) (fun (h71 : x ≠ 0) => ?_) (fun (h71 : ¬ (x ≠ 0)) => absurd (show x ≠ 0 from by omega) h71)
            show wW (zK sc) zM241 77 [(4, .inl 6), (0, .inr (.inr (.inl (some (34, 0))))), (1, .inl x), (2, .inl y), (3, .inl b)] [] _ _ _
            refine ww_go 2 (pc' := 79) (L' := [(4, .inl 6), (0, .inr (.inr (.inl (some (34, 0))))), (1, .inl x), (2, .inl y), (3, .inl b)]) (st' := [.inl 1, .inl x]) (m' := m69) (o := none) rfl trivial ?_
            refine ww_ic (t := 98) rfl rfl (by omega) (fun (h72 : x ≠ 1) => absurd h72 (by omega)) (fun (h72 : ¬ (x ≠ 1)) => ?_)
            show wW (zK sc) zM241 82 [(4, .inl 6), (0, .inr (.inr (.inl (some (34, 0))))), (1, .inl x), (2, .inl y), (3, .inl b)] [] _ _ _
            refine ww_go 2 (pc' := 84) (L' := [(4, .inl 6), (0, .inr (.inr (.inl (some (34, 0))))), (1, .inl x), (2, .inl y), (3, .inl b)]) (st' := [.inl b, .inr (.inr (.inl (some (34, 0))))]) (m' := m69) (o := none) rfl trivial ?_
            refine ww_if (t := 91) rfl rfl (by omega) (fun (h73 : b = 0) => ?_) (fun (h73 : ¬ (b = 0)) => ?_)
            · show wW (zK sc) zM241 91 [(4, .inl 6), (0, .inr (.inr (.inl (some (34, 0))))), (1, .inl x), (2, .inl y), (3, .inl b)] [.inr (.inr (.inl (some (34, 0))))] _ _ _
              refine ww_go 2 (pc' := 95) (L' := [(4, .inl 6), (0, .inr (.inr (.inl (some (34, 0))))), (1, .inl x), (2, .inl y), (3, .inl b)]) (st' := []) (m' := wuI m69 34 0 37 ((-1))) (o := some ((0 < 1))) rfl (show (0 < 1) from by omega) ?_
              obtain ⟨m74, hm74⟩ : ∃ zq9 : wm, zq9 = wuI m69 34 0 37 ((-1)) := ⟨_, rfl⟩
              rw [← hm74]
              have hGm74 : zB c m74 := by rw [hm74]; exact zB_wI rfl (show (-1) ≤ ((-1) : Int) ∧ ((-1) : Int) ≤ 6 from by omega) hGm69
              have hFm74 : zfr (fun k i j => (k = 34 ∧ j = 0) ∨ (k = 34 ∧ j = 36) ∨ (k = 34 ∧ j = 37) ∨ (k = 62) ∨ (k = 63)) m0 m74 := by rw [hm74]; exact zfr_wI hFm69 (show (34 = 34 ∧ 37 = 0) ∨ (34 = 34 ∧ 37 = 36) ∨ (34 = 34 ∧ 37 = 37) ∨ (34 = 62) ∨ (34 = 63) from Or.inr (Or.inr (Or.inl (⟨rfl, rfl⟩))))
              have s75 : m74.1 34 0 37 = ((-1) : Int) := by rw [hm74]; exact wuI_self
              have w76 : m74.1 34 0 0 = m69.1 34 0 0 := by rw [hm74]; exact wuI_nj (by omega)
              refine ww_go 1 (pc' := 120) (L' := [(4, .inl 6), (0, .inr (.inr (.inl (some (34, 0))))), (1, .inl x), (2, .inl y), (3, .inl b)]) (st' := []) (m' := m74) (o := none) rfl trivial ?_
              exact ww_rV rfl rfl ⟨rfl, rfl, zB_mono hGm74 (by omega), hFm74, by omega⟩
            · show wW (zK sc) zM241 87 [(4, .inl 6), (0, .inr (.inr (.inl (some (34, 0))))), (1, .inl x), (2, .inl y), (3, .inl b)] [.inr (.inr (.inl (some (34, 0))))] _ _ _
              refine ww_go 3 (pc' := 95) (L' := [(4, .inl 6), (0, .inr (.inr (.inl (some (34, 0))))), (1, .inl x), (2, .inl y), (3, .inl b)]) (st' := []) (m' := wuI m69 34 0 37 y) (o := some ((0 < 1))) rfl (show (0 < 1) from by omega) ?_
              obtain ⟨m77, hm77⟩ : ∃ zq9 : wm, zq9 = wuI m69 34 0 37 y := ⟨_, rfl⟩
              rw [← hm77]
              have hGm77 : zB c m77 := by rw [hm77]; exact zB_wI rfl (show (-1) ≤ y ∧ y ≤ 6 from by omega) hGm69
              have hFm77 : zfr (fun k i j => (k = 34 ∧ j = 0) ∨ (k = 34 ∧ j = 36) ∨ (k = 34 ∧ j = 37) ∨ (k = 62) ∨ (k = 63)) m0 m77 := by rw [hm77]; exact zfr_wI hFm69 (show (34 = 34 ∧ 37 = 0) ∨ (34 = 34 ∧ 37 = 36) ∨ (34 = 34 ∧ 37 = 37) ∨ (34 = 62) ∨ (34 = 63) from Or.inr (Or.inr (Or.inl (⟨rfl, rfl⟩))))
              have s78 : m77.1 34 0 37 = y := by rw [hm77]; exact wuI_self
              have w79 : m77.1 34 0 0 = m69.1 34 0 0 := by rw [hm77]; exact wuI_nj (by omega)
              refine ww_go 1 (pc' := 120) (L' := [(4, .inl 6), (0, .inr (.inr (.inl (some (34, 0))))), (1, .inl x), (2, .inl y), (3, .inl b)]) (st' := []) (m' := m77) (o := none) rfl trivial ?_
              exact ww_rV rfl rfl ⟨rfl, rfl, zB_mono hGm77 (by omega), hFm77, by omega⟩
          · show wW (zK sc) zM241 56 [(4, .inl 6), (0, .inr (.inr (.inl (some (34, 0))))), (1, .inl x), (2, .inl y), (3, .inl b)] [] _ _ _
            exact ww_rV rfl rfl ⟨rfl, rfl, zB_mono hGm69 (by omega), hFm69, by omega⟩
        · show wW (zK sc) zM241 44 [(4, .inl 6), (0, .inr (.inr (.inl (some (34, 0))))), (1, .inl x), (2, .inl y), (3, .inl b)] [.inr (.inr (.inl (some (34, 0))))] _ _ _
          refine ww_go 3 (pc' := 50) (L' := [(4, .inl 6), (0, .inr (.inr (.inl (some (34, 0))))), (1, .inl x), (2, .inl y), (3, .inl b)]) (st' := [.inl 1, .inl 1, .inr (.inr (.inl (some (34, 0))))]) (m' := m0) (o := none) rfl trivial ?_
          refine ww_call (vs := [.inr (.inr (.inl (some (34, 0)))), .inl 1, .inl 1]) (r := []) (p := 0 < 1) rfl rfl rfl rfl (show 0 < 1 from by omega) (zs196 (c := c) (by omega) 1 1 hG (by omega)) ?_
          rintro _ _ m82 ⟨r80, rfl, rfl, hGm82, hEm82, hr81⟩
          have hFm82 : zfr (fun k i j => (k = 34 ∧ j = 0) ∨ (k = 34 ∧ j = 36) ∨ (k = 34 ∧ j = 37) ∨ (k = 62) ∨ (k = 63)) m0 m82 := zfr_tr hF hEm82 (fun k i j z => Or.inl z)
          show wW (zK sc) zM241 53 [(4, .inl 6), (0, .inr (.inr (.inl (some (34, 0))))), (1, .inl x), (2, .inl y), (3, .inl b)] [.inl r80] _ _ _
          refine ww_if (t := 57) rfl rfl (by omega) (fun (h83 : r80 = 0) => ?_) (fun (h83 : ¬ (r80 = 0)) => ?_)
          · show wW (zK sc) zM241 57 [(4, .inl 6), (0, .inr (.inr (.inl (some (34, 0))))), (1, .inl x), (2, .inl y), (3, .inl b)] [] _ _ _
            refine ww_go 1 (pc' := 58) (L' := [(4, .inl 6), (0, .inr (.inr (.inl (some (34, 0))))), (1, .inl x), (2, .inl y), (3, .inl b)]) (st' := [.inl x]) (m' := m82) (o := none) rfl trivial ?_
            refine ww_if (t := 77) rfl rfl (by omega) (fun (h84 : x ≠ 0) => ?_) (fun (h84 : ¬ (x ≠ 0)) => absurd (show x ≠ 0 from by omega) h84)
            show wW (zK sc) zM241 77 [(4, .inl 6), (0, .inr (.inr (.inl (some (34, 0))))), (1, .inl x), (2, .inl y), (3, .inl b)] [] _ _ _
            refine ww_go 2 (pc' := 79) (L' := [(4, .inl 6), (0, .inr (.inr (.inl (some (34, 0))))), (1, .inl x), (2, .inl y), (3, .inl b)]) (st' := [.inl 1, .inl x]) (m' := m82) (o := none) rfl trivial ?_
            refine ww_ic (t := 98) rfl rfl (by omega) (fun (h85 : x ≠ 1) => absurd h85 (by omega)) (fun (h85 : ¬ (x ≠ 1)) => ?_)
            show wW (zK sc) zM241 82 [(4, .inl 6), (0, .inr (.inr (.inl (some (34, 0))))), (1, .inl x), (2, .inl y), (3, .inl b)] [] _ _ _
            refine ww_go 2 (pc' := 84) (L' := [(4, .inl 6), (0, .inr (.inr (.inl (some (34, 0))))), (1, .inl x), (2, .inl y), (3, .inl b)]) (st' := [.inl b, .inr (.inr (.inl (some (34, 0))))]) (m' := m82) (o := none) rfl trivial ?_
            refine ww_if (t := 91) rfl rfl (by omega) (fun (h86 : b = 0) => ?_) (fun (h86 : ¬ (b = 0)) => ?_)
            · show wW (zK sc) zM241 91 [(4, .inl 6), (0, .inr (.inr (.inl (some (34, 0))))), (1, .inl x), (2, .inl y), (3, .inl b)] [.inr (.inr (.inl (some (34, 0))))] _ _ _
              refine ww_go 2 (pc' := 95) (L' := [(4, .inl 6), (0, .inr (.inr (.inl (some (34, 0))))), (1, .inl x), (2, .inl y), (3, .inl b)]) (st' := []) (m' := wuI m82 34 0 37 ((-1))) (o := some ((0 < 1))) rfl (show (0 < 1) from by omega) ?_
              obtain ⟨m87, hm87⟩ : ∃ zq9 : wm, zq9 = wuI m82 34 0 37 ((-1)) := ⟨_, rfl⟩
              rw [← hm87]
              have hGm87 : zB c m87 := by rw [hm87]; exact zB_wI rfl (show (-1) ≤ ((-1) : Int) ∧ ((-1) : Int) ≤ 6 from by omega) hGm82
              have hFm87 : zfr (fun k i j => (k = 34 ∧ j = 0) ∨ (k = 34 ∧ j = 36) ∨ (k = 34 ∧ j = 37) ∨ (k = 62) ∨ (k = 63)) m0 m87 := by rw [hm87]; exact zfr_wI hFm82 (show (34 = 34 ∧ 37 = 0) ∨ (34 = 34 ∧ 37 = 36) ∨ (34 = 34 ∧ 37 = 37) ∨ (34 = 62) ∨ (34 = 63) from Or.inr (Or.inr (Or.inl (⟨rfl, rfl⟩))))
              have s88 : m87.1 34 0 37 = ((-1) : Int) := by rw [hm87]; exact wuI_self
              have w89 : m87.1 34 0 0 = m82.1 34 0 0 := by rw [hm87]; exact wuI_nj (by omega)
              refine ww_go 1 (pc' := 120) (L' := [(4, .inl 6), (0, .inr (.inr (.inl (some (34, 0))))), (1, .inl x), (2, .inl y), (3, .inl b)]) (st' := []) (m' := m87) (o := none) rfl trivial ?_
              exact ww_rV rfl rfl ⟨rfl, rfl, zB_mono hGm87 (by omega), hFm87, by omega⟩
            · show wW (zK sc) zM241 87 [(4, .inl 6), (0, .inr (.inr (.inl (some (34, 0))))), (1, .inl x), (2, .inl y), (3, .inl b)] [.inr (.inr (.inl (some (34, 0))))] _ _ _
              refine ww_go 3 (pc' := 95) (L' := [(4, .inl 6), (0, .inr (.inr (.inl (some (34, 0))))), (1, .inl x), (2, .inl y), (3, .inl b)]) (st' := []) (m' := wuI m82 34 0 37 y) (o := some ((0 < 1))) rfl (show (0 < 1) from by omega) ?_
              obtain ⟨m90, hm90⟩ : ∃ zq9 : wm, zq9 = wuI m82 34 0 37 y := ⟨_, rfl⟩
              rw [← hm90]
              have hGm90 : zB c m90 := by rw [hm90]; exact zB_wI rfl (show (-1) ≤ y ∧ y ≤ 6 from by omega) hGm82
              have hFm90 : zfr (fun k i j => (k = 34 ∧ j = 0) ∨ (k = 34 ∧ j = 36) ∨ (k = 34 ∧ j = 37) ∨ (k = 62) ∨ (k = 63)) m0 m90 := by rw [hm90]; exact zfr_wI hFm82 (show (34 = 34 ∧ 37 = 0) ∨ (34 = 34 ∧ 37 = 36) ∨ (34 = 34 ∧ 37 = 37) ∨ (34 = 62) ∨ (34 = 63) from Or.inr (Or.inr (Or.inl (⟨rfl, rfl⟩))))
              have s91 : m90.1 34 0 37 = y := by rw [hm90]; exact wuI_self
              have w92 : m90.1 34 0 0 = m82.1 34 0 0 := by rw [hm90]; exact wuI_nj (by omega)
              refine ww_go 1 (pc' := 120) (L' := [(4, .inl 6), (0, .inr (.inr (.inl (some (34, 0))))), (1, .inl x), (2, .inl y), (3, .inl b)]) (st' := []) (m' := m90) (o := none) rfl trivial ?_
              exact ww_rV rfl rfl ⟨rfl, rfl, zB_mono hGm90 (by omega), hFm90, by omega⟩
          · show wW (zK sc) zM241 56 [(4, .inl 6), (0, .inr (.inr (.inl (some (34, 0))))), (1, .inl x), (2, .inl y), (3, .inl b)] [] _ _ _
            exact ww_rV rfl rfl ⟨rfl, rfl, zB_mono hGm82 (by omega), hFm82, by omega⟩
  · show wW (zK sc) zM241 4 [(0, .inr (.inr (.inl (some (34, 0))))), (1, .inl x), (2, .inl y), (3, .inl b)] [] _ _ _
    refine ww_go 7 (pc' := 28) (L' := [(4, .inl 96), (0, .inr (.inr (.inl (some (34, 0))))), (1, .inl x), (2, .inl y), (3, .inl b)]) (st' := [.inl 3, .inl 0, .inl x, .inr (.inr (.inl (some (34, 0))))]) (m' := m0) (o := none) rfl trivial ?_
    refine ww_call (vs := [.inl x, .inl 0, .inl 3]) (r := [.inr (.inr (.inl (some (34, 0))))]) (p := True) rfl rfl rfl rfl trivial (zs207 x 0 3 (by omega)) ?_
    rintro _ _ _ ⟨r93, rfl, rfl, rfl, hr94⟩
    show wW (zK sc) zM241 31 [(4, .inl 96), (0, .inr (.inr (.inl (some (34, 0))))), (1, .inl x), (2, .inl y), (3, .inl b)] [.inl r93, .inr (.inr (.inl (some (34, 0))))] _ _ _
    refine ww_if (t := 44) rfl rfl (by omega) (fun (h95 : r93 = 0) => ?_) (fun (h95 : ¬ (r93 = 0)) => ?_)
    · show wW (zK sc) zM241 44 [(4, .inl 96), (0, .inr (.inr (.inl (some (34, 0))))), (1, .inl x), (2, .inl y), (3, .inl b)] [.inr (.inr (.inl (some (34, 0))))] _ _ _
      refine ww_go 3 (pc' := 50) (L' := [(4, .inl 96), (0, .inr (.inr (.inl (some (34, 0))))), (1, .inl x), (2, .inl y), (3, .inl b)]) (st' := [.inl 1, .inl 1, .inr (.inr (.inl (some (34, 0))))]) (m' := m0) (o := none) rfl trivial ?_
      refine ww_call (vs := [.inr (.inr (.inl (some (34, 0)))), .inl 1, .inl 1]) (r := []) (p := 0 < 1) rfl rfl rfl rfl (show 0 < 1 from by omega) (zs196 (c := c) (by omega) 1 1 hG (by omega)) ?_
      rintro _ _ m98 ⟨r96, rfl, rfl, hGm98, hEm98, hr97⟩
      have hFm98 : zfr (fun k i j => (k = 34 ∧ j = 0) ∨ (k = 34 ∧ j = 36) ∨ (k = 34 ∧ j = 37) ∨ (k = 62) ∨ (k = 63)) m0 m98 := zfr_tr hF hEm98 (fun k i j z => Or.inl z)
      show wW (zK sc) zM241 53 [(4, .inl 96), (0, .inr (.inr (.inl (some (34, 0))))), (1, .inl x), (2, .inl y), (3, .inl b)] [.inl r96] _ _ _
      refine ww_if (t := 57) rfl rfl (by omega) (fun (h99 : r96 = 0) => ?_) (fun (h99 : ¬ (r96 = 0)) => ?_)
      · show wW (zK sc) zM241 57 [(4, .inl 96), (0, .inr (.inr (.inl (some (34, 0))))), (1, .inl x), (2, .inl y), (3, .inl b)] [] _ _ _
        refine ww_go 1 (pc' := 58) (L' := [(4, .inl 96), (0, .inr (.inr (.inl (some (34, 0))))), (1, .inl x), (2, .inl y), (3, .inl b)]) (st' := [.inl x]) (m' := m98) (o := none) rfl trivial ?_
        refine ww_if (t := 77) rfl rfl (by omega) (fun (h100 : x ≠ 0) => absurd h100 (by omega)) (fun (h100 : ¬ (x ≠ 0)) => ?_)
        show wW (zK sc) zM241 61 [(4, .inl 96), (0, .inr (.inr (.inl (some (34, 0))))), (1, .inl x), (2, .inl y), (3, .inl b)] [] _ _ _
        refine ww_go 2 (pc' := 63) (L' := [(4, .inl 96), (0, .inr (.inr (.inl (some (34, 0))))), (1, .inl x), (2, .inl y), (3, .inl b)]) (st' := [.inl b, .inr (.inr (.inl (some (34, 0))))]) (m' := m98) (o := none) rfl trivial ?_
        refine ww_if (t := 70) rfl rfl (by omega) (fun (h101 : b = 0) => ?_) (fun (h101 : ¬ (b = 0)) => ?_)
        · show wW (zK sc) zM241 70 [(4, .inl 96), (0, .inr (.inr (.inl (some (34, 0))))), (1, .inl x), (2, .inl y), (3, .inl b)] [.inr (.inr (.inl (some (34, 0))))] _ _ _
          refine ww_go 2 (pc' := 74) (L' := [(4, .inl 96), (0, .inr (.inr (.inl (some (34, 0))))), (1, .inl x), (2, .inl y), (3, .inl b)]) (st' := []) (m' := wuI m98 34 0 36 ((-1))) (o := some ((0 < 1))) rfl (show (0 < 1) from by omega) ?_
          obtain ⟨m102, hm102⟩ : ∃ zq9 : wm, zq9 = wuI m98 34 0 36 ((-1)) := ⟨_, rfl⟩
          rw [← hm102]
          have hGm102 : zB c m102 := by rw [hm102]; exact zB_wI rfl (show (-1) ≤ ((-1) : Int) ∧ ((-1) : Int) ≤ 96 from by omega) hGm98
          have hFm102 : zfr (fun k i j => (k = 34 ∧ j = 0) ∨ (k = 34 ∧ j = 36) ∨ (k = 34 ∧ j = 37) ∨ (k = 62) ∨ (k = 63)) m0 m102 := by rw [hm102]; exact zfr_wI hFm98 (show (34 = 34 ∧ 36 = 0) ∨ (34 = 34 ∧ 36 = 36) ∨ (34 = 34 ∧ 36 = 37) ∨ (34 = 62) ∨ (34 = 63) from Or.inr (Or.inl (⟨rfl, rfl⟩)))
          have s103 : m102.1 34 0 36 = ((-1) : Int) := by rw [hm102]; exact wuI_self
          have w104 : m102.1 34 0 0 = m98.1 34 0 0 := by rw [hm102]; exact wuI_nj (by omega)
          refine ww_go 1 (pc' := 120) (L' := [(4, .inl 96), (0, .inr (.inr (.inl (some (34, 0))))), (1, .inl x), (2, .inl y), (3, .inl b)]) (st' := []) (m' := m102) (o := none) rfl trivial ?_
          exact ww_rV rfl rfl ⟨rfl, rfl, zB_mono hGm102 (by omega), hFm102, by omega⟩
        · show wW (zK sc) zM241 66 [(4, .inl 96), (0, .inr (.inr (.inl (some (34, 0))))), (1, .inl x), (2, .inl y), (3, .inl b)] [.inr (.inr (.inl (some (34, 0))))] _ _ _
          refine ww_go 3 (pc' := 74) (L' := [(4, .inl 96), (0, .inr (.inr (.inl (some (34, 0))))), (1, .inl x), (2, .inl y), (3, .inl b)]) (st' := []) (m' := wuI m98 34 0 36 y) (o := some ((0 < 1))) rfl (show (0 < 1) from by omega) ?_
          obtain ⟨m105, hm105⟩ : ∃ zq9 : wm, zq9 = wuI m98 34 0 36 y := ⟨_, rfl⟩
          rw [← hm105]
          have hGm105 : zB c m105 := by rw [hm105]; exact zB_wI rfl (show (-1) ≤ y ∧ y ≤ 96 from by omega) hGm98
          have hFm105 : zfr (fun k i j => (k = 34 ∧ j = 0) ∨ (k = 34 ∧ j = 36) ∨ (k = 34 ∧ j = 37) ∨ (k = 62) ∨ (k = 63)) m0 m105 := by rw [hm105]; exact zfr_wI hFm98 (show (34 = 34 ∧ 36 = 0) ∨ (34 = 34 ∧ 36 = 36) ∨ (34 = 34 ∧ 36 = 37) ∨ (34 = 62) ∨ (34 = 63) from Or.inr (Or.inl (⟨rfl, rfl⟩)))
          have s106 : m105.1 34 0 36 = y := by rw [hm105]; exact wuI_self
          have w107 : m105.1 34 0 0 = m98.1 34 0 0 := by rw [hm105]; exact wuI_nj (by omega)
          refine ww_go 1 (pc' := 120) (L' := [(4, .inl 96), (0, .inr (.inr (.inl (some (34, 0))))), (1, .inl x), (2, .inl y), (3, .inl b)]) (st' := []) (m' := m105) (o := none) rfl trivial ?_
          exact ww_rV rfl rfl ⟨rfl, rfl, zB_mono hGm105 (by omega), hFm105, by omega⟩
      · show wW (zK sc) zM241 56 [(4, .inl 96), (0, .inr (.inr (.inl (some (34, 0))))), (1, .inl x), (2, .inl y), (3, .inl b)] [] _ _ _
        exact ww_rV rfl rfl ⟨rfl, rfl, zB_mono hGm98 (by omega), hFm98, by omega⟩
    · show wW (zK sc) zM241 34 [(4, .inl 96), (0, .inr (.inr (.inl (some (34, 0))))), (1, .inl x), (2, .inl y), (3, .inl b)] [.inr (.inr (.inl (some (34, 0))))] _ _ _
      refine ww_go 3 (pc' := 38) (L' := [(4, .inl 96), (0, .inr (.inr (.inl (some (34, 0))))), (1, .inl x), (2, .inl y), (3, .inl b)]) (st' := [.inl 96, .inl 0, .inl y, .inr (.inr (.inl (some (34, 0))))]) (m' := m0) (o := none) rfl trivial ?_
      refine ww_call (vs := [.inl y, .inl 0, .inl 96]) (r := [.inr (.inr (.inl (some (34, 0))))]) (p := True) rfl rfl rfl rfl trivial (zs207 y 0 96 (by omega)) ?_
      rintro _ _ _ ⟨r108, rfl, rfl, rfl, hr109⟩
      show wW (zK sc) zM241 41 [(4, .inl 96), (0, .inr (.inr (.inl (some (34, 0))))), (1, .inl x), (2, .inl y), (3, .inl b)] [.inl r108, .inr (.inr (.inl (some (34, 0))))] _ _ _
      refine ww_if (t := 48) rfl rfl (by omega) (fun (h110 : r108 ≠ 0) => ?_) (fun (h110 : ¬ (r108 ≠ 0)) => ?_)
      · show wW (zK sc) zM241 48 [(4, .inl 96), (0, .inr (.inr (.inl (some (34, 0))))), (1, .inl x), (2, .inl y), (3, .inl b)] [.inr (.inr (.inl (some (34, 0))))] _ _ _
        refine ww_go 2 (pc' := 50) (L' := [(4, .inl 96), (0, .inr (.inr (.inl (some (34, 0))))), (1, .inl x), (2, .inl y), (3, .inl b)]) (st' := [.inl 1, .inl 0, .inr (.inr (.inl (some (34, 0))))]) (m' := m0) (o := none) rfl trivial ?_
        refine ww_call (vs := [.inr (.inr (.inl (some (34, 0)))), .inl 0, .inl 1]) (r := []) (p := 0 < 1) rfl rfl rfl rfl (show 0 < 1 from by omega) (zs196 (c := c) (by omega) 0 1 hG (by omega)) ?_
        rintro _ _ m113 ⟨r111, rfl, rfl, hGm113, hEm113, hr112⟩
        have hFm113 : zfr (fun k i j => (k = 34 ∧ j = 0) ∨ (k = 34 ∧ j = 36) ∨ (k = 34 ∧ j = 37) ∨ (k = 62) ∨ (k = 63)) m0 m113 := zfr_tr hF hEm113 (fun k i j z => Or.inl z)
        show wW (zK sc) zM241 53 [(4, .inl 96), (0, .inr (.inr (.inl (some (34, 0))))), (1, .inl x), (2, .inl y), (3, .inl b)] [.inl r111] _ _ _
        refine ww_if (t := 57) rfl rfl (by omega) (fun (h114 : r111 = 0) => ?_) (fun (h114 : ¬ (r111 = 0)) => ?_)
        · show wW (zK sc) zM241 57 [(4, .inl 96), (0, .inr (.inr (.inl (some (34, 0))))), (1, .inl x), (2, .inl y), (3, .inl b)] [] _ _ _
          refine ww_go 1 (pc' := 58) (L' := [(4, .inl 96), (0, .inr (.inr (.inl (some (34, 0))))), (1, .inl x), (2, .inl y), (3, .inl b)]) (st' := [.inl x]) (m' := m113) (o := none) rfl trivial ?_
          refine ww_if (t := 77) rfl rfl (by omega) (fun (h115 : x ≠ 0) => absurd h115 (by omega)) (fun (h115 : ¬ (x ≠ 0)) => ?_)
          show wW (zK sc) zM241 61 [(4, .inl 96), (0, .inr (.inr (.inl (some (34, 0))))), (1, .inl x), (2, .inl y), (3, .inl b)] [] _ _ _
          refine ww_go 2 (pc' := 63) (L' := [(4, .inl 96), (0, .inr (.inr (.inl (some (34, 0))))), (1, .inl x), (2, .inl y), (3, .inl b)]) (st' := [.inl b, .inr (.inr (.inl (some (34, 0))))]) (m' := m113) (o := none) rfl trivial ?_
          refine ww_if (t := 70) rfl rfl (by omega) (fun (h116 : b = 0) => ?_) (fun (h116 : ¬ (b = 0)) => ?_)
          · show wW (zK sc) zM241 70 [(4, .inl 96), (0, .inr (.inr (.inl (some (34, 0))))), (1, .inl x), (2, .inl y), (3, .inl b)] [.inr (.inr (.inl (some (34, 0))))] _ _ _
            refine ww_go 2 (pc' := 74) (L' := [(4, .inl 96), (0, .inr (.inr (.inl (some (34, 0))))), (1, .inl x), (2, .inl y), (3, .inl b)]) (st' := []) (m' := wuI m113 34 0 36 ((-1))) (o := some ((0 < 1))) rfl (show (0 < 1) from by omega) ?_
            obtain ⟨m117, hm117⟩ : ∃ zq9 : wm, zq9 = wuI m113 34 0 36 ((-1)) := ⟨_, rfl⟩
            rw [← hm117]
            have hGm117 : zB c m117 := by rw [hm117]; exact zB_wI rfl (show (-1) ≤ ((-1) : Int) ∧ ((-1) : Int) ≤ 96 from by omega) hGm113
            have hFm117 : zfr (fun k i j => (k = 34 ∧ j = 0) ∨ (k = 34 ∧ j = 36) ∨ (k = 34 ∧ j = 37) ∨ (k = 62) ∨ (k = 63)) m0 m117 := by rw [hm117]; exact zfr_wI hFm113 (show (34 = 34 ∧ 36 = 0) ∨ (34 = 34 ∧ 36 = 36) ∨ (34 = 34 ∧ 36 = 37) ∨ (34 = 62) ∨ (34 = 63) from Or.inr (Or.inl (⟨rfl, rfl⟩)))
            have s118 : m117.1 34 0 36 = ((-1) : Int) := by rw [hm117]; exact wuI_self
            have w119 : m117.1 34 0 0 = m113.1 34 0 0 := by rw [hm117]; exact wuI_nj (by omega)
            refine ww_go 1 (pc' := 120) (L' := [(4, .inl 96), (0, .inr (.inr (.inl (some (34, 0))))), (1, .inl x), (2, .inl y), (3, .inl b)]) (st' := []) (m' := m117) (o := none) rfl trivial ?_
            exact ww_rV rfl rfl ⟨rfl, rfl, zB_mono hGm117 (by omega), hFm117, by omega⟩
          · show wW (zK sc) zM241 66 [(4, .inl 96), (0, .inr (.inr (.inl (some (34, 0))))), (1, .inl x), (2, .inl y), (3, .inl b)] [.inr (.inr (.inl (some (34, 0))))] _ _ _
            refine ww_go 3 (pc' := 74) (L' := [(4, .inl 96), (0, .inr (.inr (.inl (some (34, 0))))), (1, .inl x), (2, .inl y), (3, .inl b)]) (st' := []) (m' := wuI m113 34 0 36 y) (o := some ((0 < 1))) rfl (show (0 < 1) from by omega) ?_
            obtain ⟨m120, hm120⟩ : ∃ zq9 : wm, zq9 = wuI m113 34 0 36 y := ⟨_, rfl⟩
            rw [← hm120]
            have hGm120 : zB c m120 := by rw [hm120]; exact zB_wI rfl (show (-1) ≤ y ∧ y ≤ 96 from by omega) hGm113
            have hFm120 : zfr (fun k i j => (k = 34 ∧ j = 0) ∨ (k = 34 ∧ j = 36) ∨ (k = 34 ∧ j = 37) ∨ (k = 62) ∨ (k = 63)) m0 m120 := by rw [hm120]; exact zfr_wI hFm113 (show (34 = 34 ∧ 36 = 0) ∨ (34 = 34 ∧ 36 = 36) ∨ (34 = 34 ∧ 36 = 37) ∨ (34 = 62) ∨ (34 = 63) from Or.inr (Or.inl (⟨rfl, rfl⟩)))
            have s121 : m120.1 34 0 36 = y := by rw [hm120]; exact wuI_self
            have w122 : m120.1 34 0 0 = m113.1 34 0 0 := by rw [hm120]; exact wuI_nj (by omega)
            refine ww_go 1 (pc' := 120) (L' := [(4, .inl 96), (0, .inr (.inr (.inl (some (34, 0))))), (1, .inl x), (2, .inl y), (3, .inl b)]) (st' := []) (m' := m120) (o := none) rfl trivial ?_
            exact ww_rV rfl rfl ⟨rfl, rfl, zB_mono hGm120 (by omega), hFm120, by omega⟩
        · show wW (zK sc) zM241 56 [(4, .inl 96), (0, .inr (.inr (.inl (some (34, 0))))), (1, .inl x), (2, .inl y), (3, .inl b)] [] _ _ _
          exact ww_rV rfl rfl ⟨rfl, rfl, zB_mono hGm113 (by omega), hFm113, by omega⟩
      · show wW (zK sc) zM241 44 [(4, .inl 96), (0, .inr (.inr (.inl (some (34, 0))))), (1, .inl x), (2, .inl y), (3, .inl b)] [.inr (.inr (.inl (some (34, 0))))] _ _ _
        refine ww_go 3 (pc' := 50) (L' := [(4, .inl 96), (0, .inr (.inr (.inl (some (34, 0))))), (1, .inl x), (2, .inl y), (3, .inl b)]) (st' := [.inl 1, .inl 1, .inr (.inr (.inl (some (34, 0))))]) (m' := m0) (o := none) rfl trivial ?_
        refine ww_call (vs := [.inr (.inr (.inl (some (34, 0)))), .inl 1, .inl 1]) (r := []) (p := 0 < 1) rfl rfl rfl rfl (show 0 < 1 from by omega) (zs196 (c := c) (by omega) 1 1 hG (by omega)) ?_
        rintro _ _ m125 ⟨r123, rfl, rfl, hGm125, hEm125, hr124⟩
        have hFm125 : zfr (fun k i j => (k = 34 ∧ j = 0) ∨ (k = 34 ∧ j = 36) ∨ (k = 34 ∧ j = 37) ∨ (k = 62) ∨ (k = 63)) m0 m125 := zfr_tr hF hEm125 (fun k i j z => Or.inl z)
        show wW (zK sc) zM241 53 [(4, .inl 96), (0, .inr (.inr (.inl (some (34, 0))))), (1, .inl x), (2, .inl y), (3, .inl b)] [.inl r123] _ _ _
        refine ww_if (t := 57) rfl rfl (by omega) (fun (h126 : r123 = 0) => ?_) (fun (h126 : ¬ (r123 = 0)) => ?_)
        · show wW (zK sc) zM241 57 [(4, .inl 96), (0, .inr (.inr (.inl (some (34, 0))))), (1, .inl x), (2, .inl y), (3, .inl b)] [] _ _ _
          refine ww_go 1 (pc' := 58) (L' := [(4, .inl 96), (0, .inr (.inr (.inl (some (34, 0))))), (1, .inl x), (2, .inl y), (3, .inl b)]) (st' := [.inl x]) (m' := m125) (o := none) rfl trivial ?_
          refine ww_if (t := 77) rfl rfl (by omega) (fun (h127 : x ≠ 0) => absurd h127 (by omega)) (fun (h127 : ¬ (x ≠ 0)) => ?_)
          show wW (zK sc) zM241 61 [(4, .inl 96), (0, .inr (.inr (.inl (some (34, 0))))), (1, .inl x), (2, .inl y), (3, .inl b)] [] _ _ _
          refine ww_go 2 (pc' := 63) (L' := [(4, .inl 96), (0, .inr (.inr (.inl (some (34, 0))))), (1, .inl x), (2, .inl y), (3, .inl b)]) (st' := [.inl b, .inr (.inr (.inl (some (34, 0))))]) (m' := m125) (o := none) rfl trivial ?_
          refine ww_if (t := 70) rfl rfl (by omega) (fun (h128 : b = 0) => ?_) (fun (h128 : ¬ (b = 0)) => ?_)
          · show wW (zK sc) zM241 70 [(4, .inl 96), (0, .inr (.inr (.inl (some (34, 0))))), (1, .inl x), (2, .inl y), (3, .inl b)] [.inr (.inr (.inl (some (34, 0))))] _ _ _
            refine ww_go 2 (pc' := 74) (L' := [(4, .inl 96), (0, .inr (.inr (.inl (some (34, 0))))), (1, .inl x), (2, .inl y), (3, .inl b)]) (st' := []) (m' := wuI m125 34 0 36 ((-1))) (o := some ((0 < 1))) rfl (show (0 < 1) from by omega) ?_
            obtain ⟨m129, hm129⟩ : ∃ zq9 : wm, zq9 = wuI m125 34 0 36 ((-1)) := ⟨_, rfl⟩
            rw [← hm129]
            have hGm129 : zB c m129 := by rw [hm129]; exact zB_wI rfl (show (-1) ≤ ((-1) : Int) ∧ ((-1) : Int) ≤ 96 from by omega) hGm125
            have hFm129 : zfr (fun k i j => (k = 34 ∧ j = 0) ∨ (k = 34 ∧ j = 36) ∨ (k = 34 ∧ j = 37) ∨ (k = 62) ∨ (k = 63)) m0 m129 := by rw [hm129]; exact zfr_wI hFm125 (show (34 = 34 ∧ 36 = 0) ∨ (34 = 34 ∧ 36 = 36) ∨ (34 = 34 ∧ 36 = 37) ∨ (34 = 62) ∨ (34 = 63) from Or.inr (Or.inl (⟨rfl, rfl⟩)))
            have s130 : m129.1 34 0 36 = ((-1) : Int) := by rw [hm129]; exact wuI_self
            have w131 : m129.1 34 0 0 = m125.1 34 0 0 := by rw [hm129]; exact wuI_nj (by omega)
            refine ww_go 1 (pc' := 120) (L' := [(4, .inl 96), (0, .inr (.inr (.inl (some (34, 0))))), (1, .inl x), (2, .inl y), (3, .inl b)]) (st' := []) (m' := m129) (o := none) rfl trivial ?_
            exact ww_rV rfl rfl ⟨rfl, rfl, zB_mono hGm129 (by omega), hFm129, by omega⟩
          · show wW (zK sc) zM241 66 [(4, .inl 96), (0, .inr (.inr (.inl (some (34, 0))))), (1, .inl x), (2, .inl y), (3, .inl b)] [.inr (.inr (.inl (some (34, 0))))] _ _ _
            refine ww_go 3 (pc' := 74) (L' := [(4, .inl 96), (0, .inr (.inr (.inl (some (34, 0))))), (1, .inl x), (2, .inl y), (3, .inl b)]) (st' := []) (m' := wuI m125 34 0 36 y) (o := some ((0 < 1))) rfl (show (0 < 1) from by omega) ?_
            obtain ⟨m132, hm132⟩ : ∃ zq9 : wm, zq9 = wuI m125 34 0 36 y := ⟨_, rfl⟩
            rw [← hm132]
            have hGm132 : zB c m132 := by rw [hm132]; exact zB_wI rfl (show (-1) ≤ y ∧ y ≤ 96 from by omega) hGm125
            have hFm132 : zfr (fun k i j => (k = 34 ∧ j = 0) ∨ (k = 34 ∧ j = 36) ∨ (k = 34 ∧ j = 37) ∨ (k = 62) ∨ (k = 63)) m0 m132 := by rw [hm132]; exact zfr_wI hFm125 (show (34 = 34 ∧ 36 = 0) ∨ (34 = 34 ∧ 36 = 36) ∨ (34 = 34 ∧ 36 = 37) ∨ (34 = 62) ∨ (34 = 63) from Or.inr (Or.inl (⟨rfl, rfl⟩)))
            have s133 : m132.1 34 0 36 = y := by rw [hm132]; exact wuI_self
            have w134 : m132.1 34 0 0 = m125.1 34 0 0 := by rw [hm132]; exact wuI_nj (by omega)
            refine ww_go 1 (pc' := 120) (L' := [(4, .inl 96), (0, .inr (.inr (.inl (some (34, 0))))), (1, .inl x), (2, .inl y), (3, .inl b)]) (st' := []) (m' := m132) (o := none) rfl trivial ?_
            exact ww_rV rfl rfl ⟨rfl, rfl, zB_mono hGm132 (by omega), hFm132, by omega⟩
        · show wW (zK sc) zM241 56 [(4, .inl 96), (0, .inr (.inr (.inl (some (34, 0))))), (1, .inl x), (2, .inl y), (3, .inl b)] [] _ _ _
          exact ww_rV rfl rfl ⟨rfl, rfl, zB_mono hGm125 (by omega), hFm125, by omega⟩
set_option maxRecDepth 8000 in
theorem zs255_l5 {sc : xSc} {n : Nat × Nat} {m : wm} {c : Int} (hc : 0 ≤ c ∧ c ≤ 1000000) (f : Int) (x : Int) (hG : zB c m) (h0 : 0 ≤ f ∧ f ≤ 1 ∧ -2147483648 ≤ x ∧ x ≤ 2147483647) (h1 : m.1 65 0 f.toNat ≤ 599) : ∀ (d : Nat), ∀ (y : Int) (k : Int), (600 - k).toNat = d → (0 ≤ y ∧ y ≤ 1 ∧ 0 ≤ k ∧ k ≤ 600) →  wW (zK sc) zM255 5 [(0, .inr (.inr (.inl (some (34, 0))))), (1, .inl f), (2, .inl x), (3, .inl y), (4, .inl k)] [] n m (wr (fun vv n1 m1 => ∃ r : Int, vv = some (.inl r) ∧ n = n1 ∧ m = m1 ∧ (0 ≤ r ∧ r ≤ 1))) := by
  intro d
  induction d using Nat.strongRecOn with
  | ind d ih =>
    intro y k hd hi
    have b1 : 0 ≤ m.1 65 0 f.toNat ∧ m.1 65 0 f.toNat ≤ c := hG.1 65 _ rfl _ _
    refine ww_go 5 (pc' := 13) (L' := [(0, .inr (.inr (.inl (some (34, 0))))), (1, .inl f), (2, .inl x), (3, .inl y), (4, .inl k)]) (st' := [.inl (m.1 65 0 f.toNat), .inl k]) (m' := m) (o := some ((0 < 1) ∧ (0 < 1 ∧ 0 ≤ f ∧ f < ((2 : Nat) : Int)))) rfl (show (0 < 1) ∧ (0 < 1 ∧ 0 ≤ f ∧ f < ((2 : Nat) : Int)) from by omega) ?_
    refine ww_ic (t := 49) rfl rfl (by omega) (fun (h2 : m.1 65 0 f.toNat ≤ k) => ?_) (fun (h2 : ¬ (m.1 65 0 f.toNat ≤ k)) => ?_)
    · show wW (zK sc) zM255 49 [(0, .inr (.inr (.inl (some (34, 0))))), (1, .inl f), (2, .inl x), (3, .inl y), (4, .inl k)] [] _ _ _
      refine ww_go 1 (pc' := 50) (L' := [(0, .inr (.inr (.inl (some (34, 0))))), (1, .inl f), (2, .inl x), (3, .inl y), (4, .inl k)]) (st' := [.inl y]) (m' := m) (o := none) rfl trivial ?_
      exact ww_rB rfl rfl (by omega) ⟨_, rfl, rfl, rfl, by omega⟩
    · show wW (zK sc) zM255 16 [(0, .inr (.inr (.inl (some (34, 0))))), (1, .inl f), (2, .inl x), (3, .inl y), (4, .inl k)] [] _ _ _
      refine ww_go 1 (pc' := 17) (L' := [(0, .inr (.inr (.inl (some (34, 0))))), (1, .inl f), (2, .inl x), (3, .inl y), (4, .inl k)]) (st' := [.inl y]) (m' := m) (o := none) rfl trivial ?_
      refine ww_if (t := 37) rfl rfl (by omega) (fun (h3 : y ≠ 0) => ?_) (fun (h3 : ¬ (y ≠ 0)) => ?_)
      · show wW (zK sc) zM255 37 [(0, .inr (.inr (.inl (some (34, 0))))), (1, .inl f), (2, .inl x), (3, .inl y), (4, .inl k)] [] _ _ _
        refine ww_go 5 (pc' := 5) (L' := [(4, .inl (k + 1)), (3, .inl 1), (0, .inr (.inr (.inl (some (34, 0))))), (1, .inl f), (2, .inl x)]) (st' := []) (m' := m) (o := none) rfl trivial ?_
        refine ww_sub (L := [(0, .inr (.inr (.inl (some (34, 0))))), (1, .inl f), (2, .inl x), (3, .inl 1), (4, .inl (k + 1))]) ⟨rfl, rfl, rfl, rfl, rfl, trivial⟩ rfl rfl ?_
        exact (ih _ (by omega)) 1 (k + 1) rfl (by omega)
      · show wW (zK sc) zM255 20 [(0, .inr (.inr (.inl (some (34, 0))))), (1, .inl f), (2, .inl x), (3, .inl y), (4, .inl k)] [] _ _ _
        have b4 : 0 ≤ m.1 66 0 (((600 * f) + k).toNat) ∧ m.1 66 0 (((600 * f) + k).toNat) ≤ 65535 := hG.1 66 _ rfl _ _
        refine ww_go 9 (pc' := 34) (L' := [(0, .inr (.inr (.inl (some (34, 0))))), (1, .inl f), (2, .inl x), (3, .inl y), (4, .inl k)]) (st' := [.inl x, .inl (m.1 66 0 (((600 * f) + k).toNat))]) (m' := m) (o := some ((0 < 1) ∧ (0 < 1 ∧ 0 ≤ (600 * f) + k ∧ (600 * f) + k < ((1200 : Nat) : Int)))) rfl (show (0 < 1) ∧ (0 < 1 ∧ 0 ≤ (600 * f) + k ∧ (600 * f) + k < ((1200 : Nat) : Int)) from by omega) ?_
        refine ww_ic (t := 41) rfl rfl (by omega) (fun (h5 : m.1 66 0 (((600 * f) + k).toNat) ≠ x) => ?_) (fun (h5 : ¬ (m.1 66 0 (((600 * f) + k).toNat) ≠ x)) => ?_)
        · show wW (zK sc) zM255 41 [(0, .inr (.inr (.inl (some (34, 0))))), (1, .inl f), (2, .inl x), (3, .inl y), (4, .inl k)] [] _ _ _
          refine ww_go 4 (pc' := 5) (L' := [(4, .inl (k + 1)), (3, .inl 0), (0, .inr (.inr (.inl (some (34, 0))))), (1, .inl f), (2, .inl x)]) (st' := []) (m' := m) (o := none) rfl trivial ?_
          refine ww_sub (L := [(0, .inr (.inr (.inl (some (34, 0))))), (1, .inl f), (2, .inl x), (3, .inl 0), (4, .inl (k + 1))]) ⟨rfl, rfl, rfl, rfl, rfl, trivial⟩ rfl rfl ?_
          exact (ih _ (by omega)) 0 (k + 1) rfl (by omega)
        · show wW (zK sc) zM255 37 [(0, .inr (.inr (.inl (some (34, 0))))), (1, .inl f), (2, .inl x), (3, .inl y), (4, .inl k)] [] _ _ _
          refine ww_go 5 (pc' := 5) (L' := [(4, .inl (k + 1)), (3, .inl 1), (0, .inr (.inr (.inl (some (34, 0))))), (1, .inl f), (2, .inl x)]) (st' := []) (m' := m) (o := none) rfl trivial ?_
          refine ww_sub (L := [(0, .inr (.inr (.inl (some (34, 0))))), (1, .inl f), (2, .inl x), (3, .inl 1), (4, .inl (k + 1))]) ⟨rfl, rfl, rfl, rfl, rfl, trivial⟩ rfl rfl ?_
          exact (ih _ (by omega)) 1 (k + 1) rfl (by omega)
set_option maxRecDepth 8000 in
/-- Mo.wasReleased -/
theorem zs255 {sc : xSc} {n : Nat × Nat} {m : wm} {c : Int} (hc : 0 ≤ c ∧ c ≤ 1000000) (f : Int) (x : Int) (hG : zB c m) (h0 : 0 ≤ f ∧ f ≤ 1 ∧ -2147483648 ≤ x ∧ x ≤ 2147483647) (h1 : m.1 65 0 f.toNat ≤ 599) : wX (zK sc) 255 [.inr (.inr (.inl (some (34, 0)))), .inl f, .inl x] n m (wr (fun vv n1 m1 => ∃ r : Int, vv = some (.inl r) ∧ n = n1 ∧ m = m1 ∧ (0 ≤ r ∧ r ≤ 1))) := by
  refine wX_of (N := zM255) rfl (Nat.le_of_ble_eq_true rfl) ?_
  show wW (zK sc) zM255 0 [(0, .inr (.inr (.inl (some (34, 0))))), (1, .inl f), (2, .inl x)] [] n m _
  refine ww_go 4 (pc' := 5) (L' := [(4, .inl 0), (3, .inl 0), (0, .inr (.inr (.inl (some (34, 0))))), (1, .inl f), (2, .inl x)]) (st' := []) (m' := m) (o := none) rfl trivial ?_
  refine ww_sub (L := [(0, .inr (.inr (.inl (some (34, 0))))), (1, .inl f), (2, .inl x), (3, .inl 0), (4, .inl 0)]) ⟨rfl, rfl, rfl, rfl, rfl, trivial⟩ rfl rfl ?_
  exact (zs255_l5 hc f x hG h0 h1 _) 0 0 rfl (by omega)
set_option maxRecDepth 8000 in
/-- Mo.have -/
theorem zs204 {sc : xSc} {n : Nat × Nat} {m0 : wm} {c : Int} (hc : 0 ≤ c ∧ c ≤ 1000000) (f : Int) (x : Int) (hG : zB c m0) (h0 : -2147483648 ≤ f ∧ f ≤ 2147483647 ∧ -2147483648 ≤ x ∧ x ≤ 2147483647) (h1 : m0.1 65 0 f.toNat ≤ 599) : wX (zK sc) 204 [.inr (.inr (.inl (some (34, 0)))), .inl f, .inl x] n m0 (wr (fun vv n1 m1 => ∃ r : Int, vv = some (.inl r) ∧ n = n1 ∧ zB c m1 ∧ zfr (fun k i j => (k = 34 ∧ j = 0)) m0 m1 ∧ True)) := by
  refine wX_of (N := zM204) rfl (Nat.le_of_ble_eq_true rfl) ?_
  show wW (zK sc) zM204 0 [(0, .inr (.inr (.inl (some (34, 0))))), (1, .inl f), (2, .inl x)] [] n m0 _
  have hF : zfr (fun k i j => (k = 34 ∧ j = 0)) m0 m0 := zfr_rf
  refine ww_go 4 (pc' := 4) (L' := [(0, .inr (.inr (.inl (some (34, 0))))), (1, .inl f), (2, .inl x)]) (st' := [.inl 1, .inl 0, .inl f, .inr (.inr (.inl (some (34, 0))))]) (m' := m0) (o := none) rfl trivial ?_
  refine ww_call (vs := [.inl f, .inl 0, .inl 1]) (r := [.inr (.inr (.inl (some (34, 0))))]) (p := True) rfl rfl rfl rfl trivial (zs207 f 0 1 (by omega)) ?_
  rintro _ _ _ ⟨r1, rfl, rfl, rfl, hr2⟩
  show wW (zK sc) zM204 7 [(0, .inr (.inr (.inl (some (34, 0))))), (1, .inl f), (2, .inl x)] [.inl r1, .inr (.inr (.inl (some (34, 0))))] _ _ _
  refine ww_if (t := 21) rfl rfl (by omega) (fun (h3 : r1 = 0) => ?_) (fun (h3 : ¬ (r1 = 0)) => ?_)
  · show wW (zK sc) zM204 21 [(0, .inr (.inr (.inl (some (34, 0))))), (1, .inl f), (2, .inl x)] [.inr (.inr (.inl (some (34, 0))))] _ _ _
    refine ww_go 3 (pc' := 27) (L' := [(0, .inr (.inr (.inl (some (34, 0))))), (1, .inl f), (2, .inl x)]) (st' := [.inl 1, .inl 1, .inr (.inr (.inl (some (34, 0))))]) (m' := m0) (o := none) rfl trivial ?_
    refine ww_call (vs := [.inr (.inr (.inl (some (34, 0)))), .inl 1, .inl 1]) (r := []) (p := 0 < 1) rfl rfl rfl rfl (show 0 < 1 from by omega) (zs196 (c := c) (by omega) 1 1 hG (by omega)) ?_
    rintro _ _ m6 ⟨r4, rfl, rfl, hGm6, hEm6, hr5⟩
    have hFm6 : zfr (fun k i j => (k = 34 ∧ j = 0)) m0 m6 := zfr_tr hF hEm6 (fun k i j z => z)
    have w7 : m6.1 65 0 f.toNat = m0.1 65 0 f.toNat := (hEm6 65 0 f.toNat (show ¬ ((65 = 34 ∧ f.toNat = 0)) from by omega)).1
    show wW (zK sc) zM204 30 [(0, .inr (.inr (.inl (some (34, 0))))), (1, .inl f), (2, .inl x)] [.inl r4] _ _ _
    refine ww_if (t := 35) rfl rfl (by omega) (fun (h8 : r4 = 0) => ?_) (fun (h8 : ¬ (r4 = 0)) => ?_)
    · show wW (zK sc) zM204 35 [(0, .inr (.inr (.inl (some (34, 0))))), (1, .inl f), (2, .inl x)] [] _ _ _
      have b9 : 0 ≤ m6.1 64 0 f.toNat ∧ m6.1 64 0 f.toNat ≤ 65535 := hGm6.1 64 _ rfl _ _
      refine ww_go 5 (pc' := 42) (L' := [(0, .inr (.inr (.inl (some (34, 0))))), (1, .inl f), (2, .inl x)]) (st' := [.inl x, .inl (m6.1 64 0 f.toNat)]) (m' := m6) (o := some ((0 < 1) ∧ (0 < 1 ∧ 0 ≤ f ∧ f < ((2 : Nat) : Int)))) rfl (show (0 < 1) ∧ (0 < 1 ∧ 0 ≤ f ∧ f < ((2 : Nat) : Int)) from by omega) ?_
      refine ww_ic (t := 47) rfl rfl (by omega) (fun (h10 : m6.1 64 0 f.toNat ≠ x) => ?_) (fun (h10 : ¬ (m6.1 64 0 f.toNat ≠ x)) => ?_)
      · show wW (zK sc) zM204 47 [(0, .inr (.inr (.inl (some (34, 0))))), (1, .inl f), (2, .inl x)] [] _ _ _
        refine ww_go 3 (pc' := 50) (L' := [(0, .inr (.inr (.inl (some (34, 0))))), (1, .inl f), (2, .inl x)]) (st' := [.inl x, .inl f, .inr (.inr (.inl (some (34, 0))))]) (m' := m6) (o := none) rfl trivial ?_
        refine ww_call (vs := [.inr (.inr (.inl (some (34, 0)))), .inl f, .inl x]) (r := []) (p := 0 < 1) rfl rfl rfl rfl (show 0 < 1 from by omega) (zs231 (c := c) (by omega) f x hGm6 (by omega)) ?_
        rintro _ _ _ ⟨r11, rfl, rfl, rfl, hr12⟩
        show wW (zK sc) zM204 53 [(0, .inr (.inr (.inl (some (34, 0))))), (1, .inl f), (2, .inl x)] [.inl r11] _ _ _
        refine ww_go 2 (pc' := 55) (L' := [(3, .inl r11), (0, .inr (.inr (.inl (some (34, 0))))), (1, .inl f), (2, .inl x)]) (st' := [.inl r11]) (m' := m6) (o := none) rfl trivial ?_
        refine ww_if (t := 62) rfl rfl (by omega) (fun (h13 : 0 ≤ r11) => ?_) (fun (h13 : ¬ (0 ≤ r11)) => ?_)
        · show wW (zK sc) zM204 62 [(3, .inl r11), (0, .inr (.inr (.inl (some (34, 0))))), (1, .inl f), (2, .inl x)] [] _ _ _
          refine ww_go 3 (pc' := 65) (L' := [(3, .inl r11), (0, .inr (.inr (.inl (some (34, 0))))), (1, .inl f), (2, .inl x)]) (st' := [.inl x, .inl f, .inr (.inr (.inl (some (34, 0))))]) (m' := m6) (o := none) rfl trivial ?_
          refine ww_call (vs := [.inr (.inr (.inl (some (34, 0)))), .inl f, .inl x]) (r := []) (p := 0 < 1) rfl rfl rfl rfl (show 0 < 1 from by omega) (zs255 (c := c) (by omega) f x hGm6 (by omega) (by omega)) ?_
          rintro _ _ _ ⟨r14, rfl, rfl, rfl, hr15⟩
          show wW (zK sc) zM204 68 [(3, .inl r11), (0, .inr (.inr (.inl (some (34, 0))))), (1, .inl f), (2, .inl x)] [.inl r14] _ _ _
          refine ww_if (t := 75) rfl rfl (by omega) (fun (h16 : r14 = 0) => ?_) (fun (h16 : ¬ (r14 = 0)) => ?_)
          · show wW (zK sc) zM204 75 [(3, .inl r11), (0, .inr (.inr (.inl (some (34, 0))))), (1, .inl f), (2, .inl x)] [] _ _ _
            have b17 : 0 ≤ m6.1 53 0 r11.toNat ∧ m6.1 53 0 r11.toNat ≤ 2 := hGm6.1 53 _ rfl _ _
            refine ww_go 6 (pc' := 83) (L' := [(3, .inl r11), (0, .inr (.inr (.inl (some (34, 0))))), (1, .inl f), (2, .inl x)]) (st' := [.inl (1 + (m6.1 53 0 r11.toNat))]) (m' := m6) (o := some ((0 < 1) ∧ (0 < 1 ∧ 0 ≤ r11 ∧ r11 < ((8 : Nat) : Int)))) rfl (show (0 < 1) ∧ (0 < 1 ∧ 0 ≤ r11 ∧ r11 < ((8 : Nat) : Int)) from by omega) ?_
            exact ww_rI rfl rfl ⟨_, rfl, rfl, zB_mono hGm6 (by omega), hFm6, by trivial⟩
          · show wW (zK sc) zM204 71 [(3, .inl r11), (0, .inr (.inr (.inl (some (34, 0))))), (1, .inl f), (2, .inl x)] [] _ _ _
            refine ww_go 2 (pc' := 83) (L' := [(3, .inl r11), (0, .inr (.inr (.inl (some (34, 0))))), (1, .inl f), (2, .inl x)]) (st' := [.inl 5]) (m' := m6) (o := none) rfl trivial ?_
            exact ww_rI rfl rfl ⟨_, rfl, rfl, zB_mono hGm6 (by omega), hFm6, by trivial⟩
        · show wW (zK sc) zM204 58 [(3, .inl r11), (0, .inr (.inr (.inl (some (34, 0))))), (1, .inl f), (2, .inl x)] [] _ _ _
          refine ww_go 2 (pc' := 83) (L' := [(3, .inl r11), (0, .inr (.inr (.inl (some (34, 0))))), (1, .inl f), (2, .inl x)]) (st' := [.inl 0]) (m' := m6) (o := none) rfl trivial ?_
          exact ww_rI rfl rfl ⟨_, rfl, rfl, zB_mono hGm6 (by omega), hFm6, by trivial⟩
      · show wW (zK sc) zM204 45 [(0, .inr (.inr (.inl (some (34, 0))))), (1, .inl f), (2, .inl x)] [] _ _ _
        refine ww_go 1 (pc' := 46) (L' := [(0, .inr (.inr (.inl (some (34, 0))))), (1, .inl f), (2, .inl x)]) (st' := [.inl 4]) (m' := m6) (o := none) rfl trivial ?_
        exact ww_rI rfl rfl ⟨_, rfl, rfl, zB_mono hGm6 (by omega), hFm6, by trivial⟩
    · show wW (zK sc) zM204 33 [(0, .inr (.inr (.inl (some (34, 0))))), (1, .inl f), (2, .inl x)] [] _ _ _
      refine ww_go 1 (pc' := 34) (L' := [(0, .inr (.inr (.inl (some (34, 0))))), (1, .inl f), (2, .inl x)]) (st' := [.inl 0]) (m' := m6) (o := none) rfl trivial ?_
      exact ww_rI rfl rfl ⟨_, rfl, rfl, zB_mono hGm6 (by omega), hFm6, by trivial⟩
  · show wW (zK sc) zM204 10 [(0, .inr (.inr (.inl (some (34, 0))))), (1, .inl f), (2, .inl x)] [.inr (.inr (.inl (some (34, 0))))] _ _ _
    refine ww_go 3 (pc' := 15) (L' := [(0, .inr (.inr (.inl (some (34, 0))))), (1, .inl f), (2, .inl x)]) (st' := [.inl 65535, .inl 1, .inl x, .inr (.inr (.inl (some (34, 0))))]) (m' := m0) (o := none) rfl trivial ?_
    refine ww_call (vs := [.inl x, .inl 1, .inl 65535]) (r := [.inr (.inr (.inl (some (34, 0))))]) (p := True) rfl rfl rfl rfl trivial (zs207 x 1 65535 (by omega)) ?_
    rintro _ _ _ ⟨r18, rfl, rfl, rfl, hr19⟩
    show wW (zK sc) zM204 18 [(0, .inr (.inr (.inl (some (34, 0))))), (1, .inl f), (2, .inl x)] [.inl r18, .inr (.inr (.inl (some (34, 0))))] _ _ _
    refine ww_if (t := 25) rfl rfl (by omega) (fun (h20 : r18 ≠ 0) => ?_) (fun (h20 : ¬ (r18 ≠ 0)) => ?_)
    · show wW (zK sc) zM204 25 [(0, .inr (.inr (.inl (some (34, 0))))), (1, .inl f), (2, .inl x)] [.inr (.inr (.inl (some (34, 0))))] _ _ _
      refine ww_go 2 (pc' := 27) (L' := [(0, .inr (.inr (.inl (some (34, 0))))), (1, .inl f), (2, .inl x)]) (st' := [.inl 1, .inl 0, .inr (.inr (.inl (some (34, 0))))]) (m' := m0) (o := none) rfl trivial ?_
      refine ww_call (vs := [.inr (.inr (.inl (some (34, 0)))), .inl 0, .inl 1]) (r := []) (p := 0 < 1) rfl rfl rfl rfl (show 0 < 1 from by omega) (zs196 (c := c) (by omega) 0 1 hG (by omega)) ?_
      rintro _ _ m23 ⟨r21, rfl, rfl, hGm23, hEm23, hr22⟩
      have hFm23 : zfr (fun k i j => (k = 34 ∧ j = 0)) m0 m23 := zfr_tr hF hEm23 (fun k i j z => z)
      have w24 : m23.1 65 0 f.toNat = m0.1 65 0 f.toNat := (hEm23 65 0 f.toNat (show ¬ ((65 = 34 ∧ f.toNat = 0)) from by omega)).1
      show wW (zK sc) zM204 30 [(0, .inr (.inr (.inl (some (34, 0))))), (1, .inl f), (2, .inl x)] [.inl r21] _ _ _
      refine ww_if (t := 35) rfl rfl (by omega) (fun (h25 : r21 = 0) => ?_) (fun (h25 : ¬ (r21 = 0)) => ?_)
      · show wW (zK sc) zM204 35 [(0, .inr (.inr (.inl (some (34, 0))))), (1, .inl f), (2, .inl x)] [] _ _ _
        have b26 : 0 ≤ m23.1 64 0 f.toNat ∧ m23.1 64 0 f.toNat ≤ 65535 := hGm23.1 64 _ rfl _ _
        refine ww_go 5 (pc' := 42) (L' := [(0, .inr (.inr (.inl (some (34, 0))))), (1, .inl f), (2, .inl x)]) (st' := [.inl x, .inl (m23.1 64 0 f.toNat)]) (m' := m23) (o := some ((0 < 1) ∧ (0 < 1 ∧ 0 ≤ f ∧ f < ((2 : Nat) : Int)))) rfl (show (0 < 1) ∧ (0 < 1 ∧ 0 ≤ f ∧ f < ((2 : Nat) : Int)) from by omega) ?_
        refine ww_ic (t := 47) rfl rfl (by omega) (fun (h27 : m23.1 64 0 f.toNat ≠ x) => ?_) (fun (h27 : ¬ (m23.1 64 0 f.toNat ≠ x)) => ?_)
        · show wW (zK sc) zM204 47 [(0, .inr (.inr (.inl (some (34, 0))))), (1, .inl f), (2, .inl x)] [] _ _ _
          refine ww_go 3 (pc' := 50) (L' := [(0, .inr (.inr (.inl (some (34, 0))))), (1, .inl f), (2, .inl x)]) (st' := [.inl x, .inl f, .inr (.inr (.inl (some (34, 0))))]) (m' := m23) (o := none) rfl trivial ?_
          refine ww_call (vs := [.inr (.inr (.inl (some (34, 0)))), .inl f, .inl x]) (r := []) (p := 0 < 1) rfl rfl rfl rfl (show 0 < 1 from by omega) (zs231 (c := c) (by omega) f x hGm23 (by omega)) ?_
          rintro _ _ _ ⟨r28, rfl, rfl, rfl, hr29⟩
          show wW (zK sc) zM204 53 [(0, .inr (.inr (.inl (some (34, 0))))), (1, .inl f), (2, .inl x)] [.inl r28] _ _ _
          refine ww_go 2 (pc' := 55) (L' := [(3, .inl r28), (0, .inr (.inr (.inl (some (34, 0))))), (1, .inl f), (2, .inl x)]) (st' := [.inl r28]) (m' := m23) (o := none) rfl trivial ?_
          refine ww_if (t := 62) rfl rfl (by omega) (fun (h30 : 0 ≤ r28) => ?_) (fun (h30 : ¬ (0 ≤ r28)) => ?_)
          · show wW (zK sc) zM204 62 [(3, .inl r28), (0, .inr (.inr (.inl (some (34, 0))))), (1, .inl f), (2, .inl x)] [] _ _ _
            refine ww_go 3 (pc' := 65) (L' := [(3, .inl r28), (0, .inr (.inr (.inl (some (34, 0))))), (1, .inl f), (2, .inl x)]) (st' := [.inl x, .inl f, .inr (.inr (.inl (some (34, 0))))]) (m' := m23) (o := none) rfl trivial ?_
            refine ww_call (vs := [.inr (.inr (.inl (some (34, 0)))), .inl f, .inl x]) (r := []) (p := 0 < 1) rfl rfl rfl rfl (show 0 < 1 from by omega) (zs255 (c := c) (by omega) f x hGm23 (by omega) (by omega)) ?_
            rintro _ _ _ ⟨r31, rfl, rfl, rfl, hr32⟩
            show wW (zK sc) zM204 68 [(3, .inl r28), (0, .inr (.inr (.inl (some (34, 0))))), (1, .inl f), (2, .inl x)] [.inl r31] _ _ _
            refine ww_if (t := 75) rfl rfl (by omega) (fun (h33 : r31 = 0) => ?_) (fun (h33 : ¬ (r31 = 0)) => ?_)
            · show wW (zK sc) zM204 75 [(3, .inl r28), (0, .inr (.inr (.inl (some (34, 0))))), (1, .inl f), (2, .inl x)] [] _ _ _
              have b34 : 0 ≤ m23.1 53 0 r28.toNat ∧ m23.1 53 0 r28.toNat ≤ 2 := hGm23.1 53 _ rfl _ _
              refine ww_go 6 (pc' := 83) (L' := [(3, .inl r28), (0, .inr (.inr (.inl (some (34, 0))))), (1, .inl f), (2, .inl x)]) (st' := [.inl (1 + (m23.1 53 0 r28.toNat))]) (m' := m23) (o := some ((0 < 1) ∧ (0 < 1 ∧ 0 ≤ r28 ∧ r28 < ((8 : Nat) : Int)))) rfl (show (0 < 1) ∧ (0 < 1 ∧ 0 ≤ r28 ∧ r28 < ((8 : Nat) : Int)) from by omega) ?_
              exact ww_rI rfl rfl ⟨_, rfl, rfl, zB_mono hGm23 (by omega), hFm23, by trivial⟩
            · show wW (zK sc) zM204 71 [(3, .inl r28), (0, .inr (.inr (.inl (some (34, 0))))), (1, .inl f), (2, .inl x)] [] _ _ _
              refine ww_go 2 (pc' := 83) (L' := [(3, .inl r28), (0, .inr (.inr (.inl (some (34, 0))))), (1, .inl f), (2, .inl x)]) (st' := [.inl 5]) (m' := m23) (o := none) rfl trivial ?_
              exact ww_rI rfl rfl ⟨_, rfl, rfl, zB_mono hGm23 (by omega), hFm23, by trivial⟩
          · show wW (zK sc) zM204 58 [(3, .inl r28), (0, .inr (.inr (.inl (some (34, 0))))), (1, .inl f), (2, .inl x)] [] _ _ _
            refine ww_go 2 (pc' := 83) (L' := [(3, .inl r28), (0, .inr (.inr (.inl (some (34, 0))))), (1, .inl f), (2, .inl x)]) (st' := [.inl 0]) (m' := m23) (o := none) rfl trivial ?_
            exact ww_rI rfl rfl ⟨_, rfl, rfl, zB_mono hGm23 (by omega), hFm23, by trivial⟩
        · show wW (zK sc) zM204 45 [(0, .inr (.inr (.inl (some (34, 0))))), (1, .inl f), (2, .inl x)] [] _ _ _
          refine ww_go 1 (pc' := 46) (L' := [(0, .inr (.inr (.inl (some (34, 0))))), (1, .inl f), (2, .inl x)]) (st' := [.inl 4]) (m' := m23) (o := none) rfl trivial ?_
          exact ww_rI rfl rfl ⟨_, rfl, rfl, zB_mono hGm23 (by omega), hFm23, by trivial⟩
      · show wW (zK sc) zM204 33 [(0, .inr (.inr (.inl (some (34, 0))))), (1, .inl f), (2, .inl x)] [] _ _ _
        refine ww_go 1 (pc' := 34) (L' := [(0, .inr (.inr (.inl (some (34, 0))))), (1, .inl f), (2, .inl x)]) (st' := [.inl 0]) (m' := m23) (o := none) rfl trivial ?_
        exact ww_rI rfl rfl ⟨_, rfl, rfl, zB_mono hGm23 (by omega), hFm23, by trivial⟩
    · show wW (zK sc) zM204 21 [(0, .inr (.inr (.inl (some (34, 0))))), (1, .inl f), (2, .inl x)] [.inr (.inr (.inl (some (34, 0))))] _ _ _
      refine ww_go 3 (pc' := 27) (L' := [(0, .inr (.inr (.inl (some (34, 0))))), (1, .inl f), (2, .inl x)]) (st' := [.inl 1, .inl 1, .inr (.inr (.inl (some (34, 0))))]) (m' := m0) (o := none) rfl trivial ?_
      refine ww_call (vs := [.inr (.inr (.inl (some (34, 0)))), .inl 1, .inl 1]) (r := []) (p := 0 < 1) rfl rfl rfl rfl (show 0 < 1 from by omega) (zs196 (c := c) (by omega) 1 1 hG (by omega)) ?_
      rintro _ _ m37 ⟨r35, rfl, rfl, hGm37, hEm37, hr36⟩
      have hFm37 : zfr (fun k i j => (k = 34 ∧ j = 0)) m0 m37 := zfr_tr hF hEm37 (fun k i j z => z)
      have w38 : m37.1 65 0 f.toNat = m0.1 65 0 f.toNat := (hEm37 65 0 f.toNat (show ¬ ((65 = 34 ∧ f.toNat = 0)) from by omega)).1
      show wW (zK sc) zM204 30 [(0, .inr (.inr (.inl (some (34, 0))))), (1, .inl f), (2, .inl x)] [.inl r35] _ _ _
      refine ww_if (t := 35) rfl rfl (by omega) (fun (h39 : r35 = 0) => ?_) (fun (h39 : ¬ (r35 = 0)) => ?_)
      · show wW (zK sc) zM204 35 [(0, .inr (.inr (.inl (some (34, 0))))), (1, .inl f), (2, .inl x)] [] _ _ _
        have b40 : 0 ≤ m37.1 64 0 f.toNat ∧ m37.1 64 0 f.toNat ≤ 65535 := hGm37.1 64 _ rfl _ _
        refine ww_go 5 (pc' := 42) (L' := [(0, .inr (.inr (.inl (some (34, 0))))), (1, .inl f), (2, .inl x)]) (st' := [.inl x, .inl (m37.1 64 0 f.toNat)]) (m' := m37) (o := some ((0 < 1) ∧ (0 < 1 ∧ 0 ≤ f ∧ f < ((2 : Nat) : Int)))) rfl (show (0 < 1) ∧ (0 < 1 ∧ 0 ≤ f ∧ f < ((2 : Nat) : Int)) from by omega) ?_
        refine ww_ic (t := 47) rfl rfl (by omega) (fun (h41 : m37.1 64 0 f.toNat ≠ x) => ?_) (fun (h41 : ¬ (m37.1 64 0 f.toNat ≠ x)) => ?_)
        · show wW (zK sc) zM204 47 [(0, .inr (.inr (.inl (some (34, 0))))), (1, .inl f), (2, .inl x)] [] _ _ _
          refine ww_go 3 (pc' := 50) (L' := [(0, .inr (.inr (.inl (some (34, 0))))), (1, .inl f), (2, .inl x)]) (st' := [.inl x, .inl f, .inr (.inr (.inl (some (34, 0))))]) (m' := m37) (o := none) rfl trivial ?_
          refine ww_call (vs := [.inr (.inr (.inl (some (34, 0)))), .inl f, .inl x]) (r := []) (p := 0 < 1) rfl rfl rfl rfl (show 0 < 1 from by omega) (zs231 (c := c) (by omega) f x hGm37 (by omega)) ?_
          rintro _ _ _ ⟨r42, rfl, rfl, rfl, hr43⟩
          show wW (zK sc) zM204 53 [(0, .inr (.inr (.inl (some (34, 0))))), (1, .inl f), (2, .inl x)] [.inl r42] _ _ _
          refine ww_go 2 (pc' := 55) (L' := [(3, .inl r42), (0, .inr (.inr (.inl (some (34, 0))))), (1, .inl f), (2, .inl x)]) (st' := [.inl r42]) (m' := m37) (o := none) rfl trivial ?_
          refine ww_if (t := 62) rfl rfl (by omega) (fun (h44 : 0 ≤ r42) => ?_) (fun (h44 : ¬ (0 ≤ r42)) => ?_)
          · show wW (zK sc) zM204 62 [(3, .inl r42), (0, .inr (.inr (.inl (some (34, 0))))), (1, .inl f), (2, .inl x)] [] _ _ _
            refine ww_go 3 (pc' := 65) (L' := [(3, .inl r42), (0, .inr (.inr (.inl (some (34, 0))))), (1, .inl f), (2, .inl x)]) (st' := [.inl x, .inl f, .inr (.inr (.inl (some (34, 0))))]) (m' := m37) (o := none) rfl trivial ?_
            refine ww_call (vs := [.inr (.inr (.inl (some (34, 0)))), .inl f, .inl x]) (r := []) (p := 0 < 1) rfl rfl rfl rfl (show 0 < 1 from by omega) (zs255 (c := c) (by omega) f x hGm37 (by omega) (by omega)) ?_
            rintro _ _ _ ⟨r45, rfl, rfl, rfl, hr46⟩
            show wW (zK sc) zM204 68 [(3, .inl r42), (0, .inr (.inr (.inl (some (34, 0))))), (1, .inl f), (2, .inl x)] [.inl r45] _ _ _
            refine ww_if (t := 75) rfl rfl (by omega) (fun (h47 : r45 = 0) => ?_) (fun (h47 : ¬ (r45 = 0)) => ?_)
            · show wW (zK sc) zM204 75 [(3, .inl r42), (0, .inr (.inr (.inl (some (34, 0))))), (1, .inl f), (2, .inl x)] [] _ _ _
              have b48 : 0 ≤ m37.1 53 0 r42.toNat ∧ m37.1 53 0 r42.toNat ≤ 2 := hGm37.1 53 _ rfl _ _
              refine ww_go 6 (pc' := 83) (L' := [(3, .inl r42), (0, .inr (.inr (.inl (some (34, 0))))), (1, .inl f), (2, .inl x)]) (st' := [.inl (1 + (m37.1 53 0 r42.toNat))]) (m' := m37) (o := some ((0 < 1) ∧ (0 < 1 ∧ 0 ≤ r42 ∧ r42 < ((8 : Nat) : Int)))) rfl (show (0 < 1) ∧ (0 < 1 ∧ 0 ≤ r42 ∧ r42 < ((8 : Nat) : Int)) from by omega) ?_
              exact ww_rI rfl rfl ⟨_, rfl, rfl, zB_mono hGm37 (by omega), hFm37, by trivial⟩
            · show wW (zK sc) zM204 71 [(3, .inl r42), (0, .inr (.inr (.inl (some (34, 0))))), (1, .inl f), (2, .inl x)] [] _ _ _
              refine ww_go 2 (pc' := 83) (L' := [(3, .inl r42), (0, .inr (.inr (.inl (some (34, 0))))), (1, .inl f), (2, .inl x)]) (st' := [.inl 5]) (m' := m37) (o := none) rfl trivial ?_
              exact ww_rI rfl rfl ⟨_, rfl, rfl, zB_mono hGm37 (by omega), hFm37, by trivial⟩
          · show wW (zK sc) zM204 58 [(3, .inl r42), (0, .inr (.inr (.inl (some (34, 0))))), (1, .inl f), (2, .inl x)] [] _ _ _
            refine ww_go 2 (pc' := 83) (L' := [(3, .inl r42), (0, .inr (.inr (.inl (some (34, 0))))), (1, .inl f), (2, .inl x)]) (st' := [.inl 0]) (m' := m37) (o := none) rfl trivial ?_
            exact ww_rI rfl rfl ⟨_, rfl, rfl, zB_mono hGm37 (by omega), hFm37, by trivial⟩
        · show wW (zK sc) zM204 45 [(0, .inr (.inr (.inl (some (34, 0))))), (1, .inl f), (2, .inl x)] [] _ _ _
          refine ww_go 1 (pc' := 46) (L' := [(0, .inr (.inr (.inl (some (34, 0))))), (1, .inl f), (2, .inl x)]) (st' := [.inl 4]) (m' := m37) (o := none) rfl trivial ?_
          exact ww_rI rfl rfl ⟨_, rfl, rfl, zB_mono hGm37 (by omega), hFm37, by trivial⟩
      · show wW (zK sc) zM204 33 [(0, .inr (.inr (.inl (some (34, 0))))), (1, .inl f), (2, .inl x)] [] _ _ _
        refine ww_go 1 (pc' := 34) (L' := [(0, .inr (.inr (.inl (some (34, 0))))), (1, .inl f), (2, .inl x)]) (st' := [.inl 0]) (m' := m37) (o := none) rfl trivial ?_
        exact ww_rI rfl rfl ⟨_, rfl, rfl, zB_mono hGm37 (by omega), hFm37, by trivial⟩
set_option maxRecDepth 8000 in
/-- Mo.rank -/
theorem zs232 {sc : xSc} {n : Nat × Nat} {m0 : wm} {c : Int} (hc : 0 ≤ c ∧ c ≤ 1000000) (f : Int) (x : Int) (y : Int) (b : Int) (hG : zB c m0) (h0 : -2147483648 ≤ f ∧ f ≤ 2147483647 ∧ -2147483648 ≤ x ∧ x ≤ 2147483647 ∧ -2147483648 ≤ y ∧ y ≤ 2147483647 ∧ -2147483648 ≤ b ∧ b ≤ 2147483647) : wX (zK sc) 232 [.inr (.inr (.inl (some (34, 0)))), .inl f, .inl x, .inl y, .inl b] n m0 (wr (fun vv n1 m1 => ∃ r : Int, vv = some (.inl r) ∧ n = n1 ∧ zB c m1 ∧ zfr (fun k i j => (k = 34 ∧ j = 0)) m0 m1 ∧ True)) := by
  refine wX_of (N := zM232) rfl (Nat.le_of_ble_eq_true rfl) ?_
  show wW (zK sc) zM232 0 [(0, .inr (.inr (.inl (some (34, 0))))), (1, .inl f), (2, .inl x), (3, .inl y), (4, .inl b)] [] n m0 _
  have hF : zfr (fun k i j => (k = 34 ∧ j = 0)) m0 m0 := zfr_rf
  refine ww_go 4 (pc' := 4) (L' := [(0, .inr (.inr (.inl (some (34, 0))))), (1, .inl f), (2, .inl x), (3, .inl y), (4, .inl b)]) (st' := [.inl 1, .inl 0, .inl f, .inr (.inr (.inl (some (34, 0))))]) (m' := m0) (o := none) rfl trivial ?_
  refine ww_call (vs := [.inl f, .inl 0, .inl 1]) (r := [.inr (.inr (.inl (some (34, 0))))]) (p := True) rfl rfl rfl rfl trivial (zs207 f 0 1 (by omega)) ?_
  rintro _ _ _ ⟨r1, rfl, rfl, rfl, hr2⟩
  show wW (zK sc) zM232 7 [(0, .inr (.inr (.inl (some (34, 0))))), (1, .inl f), (2, .inl x), (3, .inl y), (4, .inl b)] [.inl r1, .inr (.inr (.inl (some (34, 0))))] _ _ _
  refine ww_if (t := 41) rfl rfl (by omega) (fun (h3 : r1 = 0) => ?_) (fun (h3 : ¬ (r1 = 0)) => ?_)
  · show wW (zK sc) zM232 41 [(0, .inr (.inr (.inl (some (34, 0))))), (1, .inl f), (2, .inl x), (3, .inl y), (4, .inl b)] [.inr (.inr (.inl (some (34, 0))))] _ _ _
    refine ww_go 3 (pc' := 47) (L' := [(0, .inr (.inr (.inl (some (34, 0))))), (1, .inl f), (2, .inl x), (3, .inl y), (4, .inl b)]) (st' := [.inl 1, .inl 1, .inr (.inr (.inl (some (34, 0))))]) (m' := m0) (o := none) rfl trivial ?_
    refine ww_call (vs := [.inr (.inr (.inl (some (34, 0)))), .inl 1, .inl 1]) (r := []) (p := 0 < 1) rfl rfl rfl rfl (show 0 < 1 from by omega) (zs196 (c := c) (by omega) 1 1 hG (by omega)) ?_
    rintro _ _ m6 ⟨r4, rfl, rfl, hGm6, hEm6, hr5⟩
    have hFm6 : zfr (fun k i j => (k = 34 ∧ j = 0)) m0 m6 := zfr_tr hF hEm6 (fun k i j z => z)
    show wW (zK sc) zM232 50 [(0, .inr (.inr (.inl (some (34, 0))))), (1, .inl f), (2, .inl x), (3, .inl y), (4, .inl b)] [.inl r4] _ _ _
    refine ww_if (t := 55) rfl rfl (by omega) (fun (h7 : r4 = 0) => ?_) (fun (h7 : ¬ (r4 = 0)) => ?_)
    · show wW (zK sc) zM232 55 [(0, .inr (.inr (.inl (some (34, 0))))), (1, .inl f), (2, .inl x), (3, .inl y), (4, .inl b)] [] _ _ _
      refine ww_go 3 (pc' := 58) (L' := [(0, .inr (.inr (.inl (some (34, 0))))), (1, .inl f), (2, .inl x), (3, .inl y), (4, .inl b)]) (st' := [.inl x, .inl f, .inr (.inr (.inl (some (34, 0))))]) (m' := m6) (o := none) rfl trivial ?_
      refine ww_call (vs := [.inr (.inr (.inl (some (34, 0)))), .inl f, .inl x]) (r := []) (p := 0 < 1) rfl rfl rfl rfl (show 0 < 1 from by omega) (zs231 (c := c) (by omega) f x hGm6 (by omega)) ?_
      rintro _ _ _ ⟨r8, rfl, rfl, rfl, hr9⟩
      show wW (zK sc) zM232 61 [(0, .inr (.inr (.inl (some (34, 0))))), (1, .inl f), (2, .inl x), (3, .inl y), (4, .inl b)] [.inl r8] _ _ _
      refine ww_go 2 (pc' := 65) (L' := [(5, .inl r8), (0, .inr (.inr (.inl (some (34, 0))))), (1, .inl f), (2, .inl x), (3, .inl y), (4, .inl b)]) (st' := [.inl r8]) (m' := m6) (o := none) rfl trivial ?_
      refine ww_if (t := 70) rfl rfl (by omega) (fun (h10 : 0 ≤ r8) => ?_) (fun (h10 : ¬ (0 ≤ r8)) => ?_)
      · show wW (zK sc) zM232 70 [(5, .inl r8), (0, .inr (.inr (.inl (some (34, 0))))), (1, .inl f), (2, .inl x), (3, .inl y), (4, .inl b)] [] _ _ _
        have b11 : 0 ≤ m6.1 55 0 (((2 * ((7 * r8) + y)) + b).toNat) ∧ m6.1 55 0 (((2 * ((7 * r8) + y)) + b).toNat) ≤ 1 := hGm6.1 55 _ rfl _ _
        refine ww_go 12 (pc' := 87) (L' := [(5, .inl r8), (0, .inr (.inr (.inl (some (34, 0))))), (1, .inl f), (2, .inl x), (3, .inl y), (4, .inl b)]) (st' := [.inl (m6.1 55 0 (((2 * ((7 * r8) + y)) + b).toNat))]) (m' := m6) (o := some ((0 < 1) ∧ (0 < 1 ∧ 0 ≤ (2 * ((7 * r8) + y)) + b ∧ (2 * ((7 * r8) + y)) + b < ((112 : Nat) : Int)))) rfl (show (0 < 1) ∧ (0 < 1 ∧ 0 ≤ (2 * ((7 * r8) + y)) + b ∧ (2 * ((7 * r8) + y)) + b < ((112 : Nat) : Int)) from by omega) ?_
        refine ww_if (t := 95) rfl rfl (by omega) (fun (h12 : m6.1 55 0 (((2 * ((7 * r8) + y)) + b).toNat) = 0) => ?_) (fun (h12 : ¬ (m6.1 55 0 (((2 * ((7 * r8) + y)) + b).toNat) = 0)) => ?_)
        · show wW (zK sc) zM232 95 [(5, .inl r8), (0, .inr (.inr (.inl (some (34, 0))))), (1, .inl f), (2, .inl x), (3, .inl y), (4, .inl b)] [] _ _ _
          refine ww_go 7 (pc' := 105) (L' := [(5, .inl r8), (0, .inr (.inr (.inl (some (34, 0))))), (1, .inl f), (2, .inl x), (3, .inl y), (4, .inl b)]) (st' := [.inl b, .inl ((7 * r8) + y), .inr (.inr (.inl (some (34, 0))))]) (m' := m6) (o := none) rfl trivial ?_
          refine ww_call (vs := [.inr (.inr (.inl (some (34, 0)))), .inl ((7 * r8) + y), .inl b]) (r := []) (p := 0 < 1) rfl rfl rfl rfl (show 0 < 1 from by omega) (zs240 (c := c) (by omega) ((7 * r8) + y) b hGm6 (by omega)) ?_
          rintro _ _ _ ⟨r13, rfl, rfl, rfl, hr14⟩
          show wW (zK sc) zM232 108 [(5, .inl r8), (0, .inr (.inr (.inl (some (34, 0))))), (1, .inl f), (2, .inl x), (3, .inl y), (4, .inl b)] [.inl r13] _ _ _
          exact ww_rI rfl rfl ⟨_, rfl, rfl, zB_mono hGm6 (by omega), hFm6, by trivial⟩
        · show wW (zK sc) zM232 90 [(5, .inl r8), (0, .inr (.inr (.inl (some (34, 0))))), (1, .inl f), (2, .inl x), (3, .inl y), (4, .inl b)] [] _ _ _
          refine ww_go 2 (pc' := 108) (L' := [(5, .inl r8), (0, .inr (.inr (.inl (some (34, 0))))), (1, .inl f), (2, .inl x), (3, .inl y), (4, .inl b)]) (st' := [.inl 8]) (m' := m6) (o := none) rfl trivial ?_
          exact ww_rI rfl rfl ⟨_, rfl, rfl, zB_mono hGm6 (by omega), hFm6, by trivial⟩
      · show wW (zK sc) zM232 68 [(5, .inl r8), (0, .inr (.inr (.inl (some (34, 0))))), (1, .inl f), (2, .inl x), (3, .inl y), (4, .inl b)] [] _ _ _
        refine ww_go 1 (pc' := 69) (L' := [(5, .inl r8), (0, .inr (.inr (.inl (some (34, 0))))), (1, .inl f), (2, .inl x), (3, .inl y), (4, .inl b)]) (st' := [.inl 0]) (m' := m6) (o := none) rfl trivial ?_
        exact ww_rI rfl rfl ⟨_, rfl, rfl, zB_mono hGm6 (by omega), hFm6, by trivial⟩
    · show wW (zK sc) zM232 53 [(0, .inr (.inr (.inl (some (34, 0))))), (1, .inl f), (2, .inl x), (3, .inl y), (4, .inl b)] [] _ _ _
      refine ww_go 1 (pc' := 54) (L' := [(0, .inr (.inr (.inl (some (34, 0))))), (1, .inl f), (2, .inl x), (3, .inl y), (4, .inl b)]) (st' := [.inl 0]) (m' := m6) (o := none) rfl trivial ?_
      exact ww_rI rfl rfl ⟨_, rfl, rfl, zB_mono hGm6 (by omega), hFm6, by trivial⟩
  · show wW (zK sc) zM232 10 [(0, .inr (.inr (.inl (some (34, 0))))), (1, .inl f), (2, .inl x), (3, .inl y), (4, .inl b)] [.inr (.inr (.inl (some (34, 0))))] _ _ _
    refine ww_go 3 (pc' := 15) (L' := [(0, .inr (.inr (.inl (some (34, 0))))), (1, .inl f), (2, .inl x), (3, .inl y), (4, .inl b)]) (st' := [.inl 65535, .inl 1, .inl x, .inr (.inr (.inl (some (34, 0))))]) (m' := m0) (o := none) rfl trivial ?_
    refine ww_call (vs := [.inl x, .inl 1, .inl 65535]) (r := [.inr (.inr (.inl (some (34, 0))))]) (p := True) rfl rfl rfl rfl trivial (zs207 x 1 65535 (by omega)) ?_
    rintro _ _ _ ⟨r15, rfl, rfl, rfl, hr16⟩
    show wW (zK sc) zM232 18 [(0, .inr (.inr (.inl (some (34, 0))))), (1, .inl f), (2, .inl x), (3, .inl y), (4, .inl b)] [.inl r15, .inr (.inr (.inl (some (34, 0))))] _ _ _
    refine ww_if (t := 41) rfl rfl (by omega) (fun (h17 : r15 = 0) => ?_) (fun (h17 : ¬ (r15 = 0)) => ?_)
    · show wW (zK sc) zM232 41 [(0, .inr (.inr (.inl (some (34, 0))))), (1, .inl f), (2, .inl x), (3, .inl y), (4, .inl b)] [.inr (.inr (.inl (some (34, 0))))] _ _ _
      refine ww_go 3 (pc' := 47) (L' := [(0, .inr (.inr (.inl (some (34, 0))))), (1, .inl f), (2, .inl x), (3, .inl y), (4, .inl b)]) (st' := [.inl 1, .inl 1, .inr (.inr (.inl (some (34, 0))))]) (m' := m0) (o := none) rfl trivial ?_
      refine ww_call (vs := [.inr (.inr (.inl (some (34, 0)))), .inl 1, .inl 1]) (r := []) (p := 0 < 1) rfl rfl rfl rfl (show 0 < 1 from by omega) (zs196 (c := c) (by omega) 1 1 hG (by omega)) ?_
      rintro _ _ m20 ⟨r18, rfl, rfl, hGm20, hEm20, hr19⟩
      have hFm20 : zfr (fun k i j => (k = 34 ∧ j = 0)) m0 m20 := zfr_tr hF hEm20 (fun k i j z => z)
      show wW (zK sc) zM232 50 [(0, .inr (.inr (.inl (some (34, 0))))), (1, .inl f), (2, .inl x), (3, .inl y), (4, .inl b)] [.inl r18] _ _ _
      refine ww_if (t := 55) rfl rfl (by omega) (fun (h21 : r18 = 0) => ?_) (fun (h21 : ¬ (r18 = 0)) => ?_)
      · show wW (zK sc) zM232 55 [(0, .inr (.inr (.inl (some (34, 0))))), (1, .inl f), (2, .inl x), (3, .inl y), (4, .inl b)] [] _ _ _
        refine ww_go 3 (pc' := 58) (L' := [(0, .inr (.inr (.inl (some (34, 0))))), (1, .inl f), (2, .inl x), (3, .inl y), (4, .inl b)]) (st' := [.inl x, .inl f, .inr (.inr (.inl (some (34, 0))))]) (m' := m20) (o := none) rfl trivial ?_
        refine ww_call (vs := [.inr (.inr (.inl (some (34, 0)))), .inl f, .inl x]) (r := []) (p := 0 < 1) rfl rfl rfl rfl (show 0 < 1 from by omega) (zs231 (c := c) (by omega) f x hGm20 (by omega)) ?_
        rintro _ _ _ ⟨r22, rfl, rfl, rfl, hr23⟩
        show wW (zK sc) zM232 61 [(0, .inr (.inr (.inl (some (34, 0))))), (1, .inl f), (2, .inl x), (3, .inl y), (4, .inl b)] [.inl r22] _ _ _
        refine ww_go 2 (pc' := 65) (L' := [(5, .inl r22), (0, .inr (.inr (.inl (some (34, 0))))), (1, .inl f), (2, .inl x), (3, .inl y), (4, .inl b)]) (st' := [.inl r22]) (m' := m20) (o := none) rfl trivial ?_
        refine ww_if (t := 70) rfl rfl (by omega) (fun (h24 : 0 ≤ r22) => ?_) (fun (h24 : ¬ (0 ≤ r22)) => ?_)
        · show wW (zK sc) zM232 70 [(5, .inl r22), (0, .inr (.inr (.inl (some (34, 0))))), (1, .inl f), (2, .inl x), (3, .inl y), (4, .inl b)] [] _ _ _
          have b25 : 0 ≤ m20.1 55 0 (((2 * ((7 * r22) + y)) + b).toNat) ∧ m20.1 55 0 (((2 * ((7 * r22) + y)) + b).toNat) ≤ 1 := hGm20.1 55 _ rfl _ _
          refine ww_go 12 (pc' := 87) (L' := [(5, .inl r22), (0, .inr (.inr (.inl (some (34, 0))))), (1, .inl f), (2, .inl x), (3, .inl y), (4, .inl b)]) (st' := [.inl (m20.1 55 0 (((2 * ((7 * r22) + y)) + b).toNat))]) (m' := m20) (o := some ((0 < 1) ∧ (0 < 1 ∧ 0 ≤ (2 * ((7 * r22) + y)) + b ∧ (2 * ((7 * r22) + y)) + b < ((112 : Nat) : Int)))) rfl (show (0 < 1) ∧ (0 < 1 ∧ 0 ≤ (2 * ((7 * r22) + y)) + b ∧ (2 * ((7 * r22) + y)) + b < ((112 : Nat) : Int)) from by omega) ?_
          refine ww_if (t := 95) rfl rfl (by omega) (fun (h26 : m20.1 55 0 (((2 * ((7 * r22) + y)) + b).toNat) = 0) => ?_) (fun (h26 : ¬ (m20.1 55 0 (((2 * ((7 * r22) + y)) + b).toNat) = 0)) => ?_)
          · show wW (zK sc) zM232 95 [(5, .inl r22), (0, .inr (.inr (.inl (some (34, 0))))), (1, .inl f), (2, .inl x), (3, .inl y), (4, .inl b)] [] _ _ _
            refine ww_go 7 (pc' := 105) (L' := [(5, .inl r22), (0, .inr (.inr (.inl (some (34, 0))))), (1, .inl f), (2, .inl x), (3, .inl y), (4, .inl b)]) (st' := [.inl b, .inl ((7 * r22) + y), .inr (.inr (.inl (some (34, 0))))]) (m' := m20) (o := none) rfl trivial ?_
            refine ww_call (vs := [.inr (.inr (.inl (some (34, 0)))), .inl ((7 * r22) + y), .inl b]) (r := []) (p := 0 < 1) rfl rfl rfl rfl (show 0 < 1 from by omega) (zs240 (c := c) (by omega) ((7 * r22) + y) b hGm20 (by omega)) ?_
            rintro _ _ _ ⟨r27, rfl, rfl, rfl, hr28⟩
            show wW (zK sc) zM232 108 [(5, .inl r22), (0, .inr (.inr (.inl (some (34, 0))))), (1, .inl f), (2, .inl x), (3, .inl y), (4, .inl b)] [.inl r27] _ _ _
            exact ww_rI rfl rfl ⟨_, rfl, rfl, zB_mono hGm20 (by omega), hFm20, by trivial⟩
          · show wW (zK sc) zM232 90 [(5, .inl r22), (0, .inr (.inr (.inl (some (34, 0))))), (1, .inl f), (2, .inl x), (3, .inl y), (4, .inl b)] [] _ _ _
            refine ww_go 2 (pc' := 108) (L' := [(5, .inl r22), (0, .inr (.inr (.inl (some (34, 0))))), (1, .inl f), (2, .inl x), (3, .inl y), (4, .inl b)]) (st' := [.inl 8]) (m' := m20) (o := none) rfl trivial ?_
            exact ww_rI rfl rfl ⟨_, rfl, rfl, zB_mono hGm20 (by omega), hFm20, by trivial⟩
        · show wW (zK sc) zM232 68 [(5, .inl r22), (0, .inr (.inr (.inl (some (34, 0))))), (1, .inl f), (2, .inl x), (3, .inl y), (4, .inl b)] [] _ _ _
          refine ww_go 1 (pc' := 69) (L' := [(5, .inl r22), (0, .inr (.inr (.inl (some (34, 0))))), (1, .inl f), (2, .inl x), (3, .inl y), (4, .inl b)]) (st' := [.inl 0]) (m' := m20) (o := none) rfl trivial ?_
          exact ww_rI rfl rfl ⟨_, rfl, rfl, zB_mono hGm20 (by omega), hFm20, by trivial⟩
      · show wW (zK sc) zM232 53 [(0, .inr (.inr (.inl (some (34, 0))))), (1, .inl f), (2, .inl x), (3, .inl y), (4, .inl b)] [] _ _ _
        refine ww_go 1 (pc' := 54) (L' := [(0, .inr (.inr (.inl (some (34, 0))))), (1, .inl f), (2, .inl x), (3, .inl y), (4, .inl b)]) (st' := [.inl 0]) (m' := m20) (o := none) rfl trivial ?_
        exact ww_rI rfl rfl ⟨_, rfl, rfl, zB_mono hGm20 (by omega), hFm20, by trivial⟩
    · show wW (zK sc) zM232 21 [(0, .inr (.inr (.inl (some (34, 0))))), (1, .inl f), (2, .inl x), (3, .inl y), (4, .inl b)] [.inr (.inr (.inl (some (34, 0))))] _ _ _
      refine ww_go 3 (pc' := 25) (L' := [(0, .inr (.inr (.inl (some (34, 0))))), (1, .inl f), (2, .inl x), (3, .inl y), (4, .inl b)]) (st' := [.inl 6, .inl 0, .inl y, .inr (.inr (.inl (some (34, 0))))]) (m' := m0) (o := none) rfl trivial ?_
      refine ww_call (vs := [.inl y, .inl 0, .inl 6]) (r := [.inr (.inr (.inl (some (34, 0))))]) (p := True) rfl rfl rfl rfl trivial (zs207 y 0 6 (by omega)) ?_
      rintro _ _ _ ⟨r29, rfl, rfl, rfl, hr30⟩
      show wW (zK sc) zM232 28 [(0, .inr (.inr (.inl (some (34, 0))))), (1, .inl f), (2, .inl x), (3, .inl y), (4, .inl b)] [.inl r29, .inr (.inr (.inl (some (34, 0))))] _ _ _
      refine ww_if (t := 41) rfl rfl (by omega) (fun (h31 : r29 = 0) => ?_) (fun (h31 : ¬ (r29 = 0)) => ?_)
      · show wW (zK sc) zM232 41 [(0, .inr (.inr (.inl (some (34, 0))))), (1, .inl f), (2, .inl x), (3, .inl y), (4, .inl b)] [.inr (.inr (.inl (some (34, 0))))] _ _ _
        refine ww_go 3 (pc' := 47) (L' := [(0, .inr (.inr (.inl (some (34, 0))))), (1, .inl f), (2, .inl x), (3, .inl y), (4, .inl b)]) (st' := [.inl 1, .inl 1, .inr (.inr (.inl (some (34, 0))))]) (m' := m0) (o := none) rfl trivial ?_
        refine ww_call (vs := [.inr (.inr (.inl (some (34, 0)))), .inl 1, .inl 1]) (r := []) (p := 0 < 1) rfl rfl rfl rfl (show 0 < 1 from by omega) (zs196 (c := c) (by omega) 1 1 hG (by omega)) ?_
        rintro _ _ m34 ⟨r32, rfl, rfl, hGm34, hEm34, hr33⟩
        have hFm34 : zfr (fun k i j => (k = 34 ∧ j = 0)) m0 m34 := zfr_tr hF hEm34 (fun k i j z => z)
        show wW (zK sc) zM232 50 [(0, .inr (.inr (.inl (some (34, 0))))), (1, .inl f), (2, .inl x), (3, .inl y), (4, .inl b)] [.inl r32] _ _ _
        refine ww_if (t := 55) rfl rfl (by omega) (fun (h35 : r32 = 0) => ?_) (fun (h35 : ¬ (r32 = 0)) => ?_)
        · show wW (zK sc) zM232 55 [(0, .inr (.inr (.inl (some (34, 0))))), (1, .inl f), (2, .inl x), (3, .inl y), (4, .inl b)] [] _ _ _
          refine ww_go 3 (pc' := 58) (L' := [(0, .inr (.inr (.inl (some (34, 0))))), (1, .inl f), (2, .inl x), (3, .inl y), (4, .inl b)]) (st' := [.inl x, .inl f, .inr (.inr (.inl (some (34, 0))))]) (m' := m34) (o := none) rfl trivial ?_
          refine ww_call (vs := [.inr (.inr (.inl (some (34, 0)))), .inl f, .inl x]) (r := []) (p := 0 < 1) rfl rfl rfl rfl (show 0 < 1 from by omega) (zs231 (c := c) (by omega) f x hGm34 (by omega)) ?_
          rintro _ _ _ ⟨r36, rfl, rfl, rfl, hr37⟩
          show wW (zK sc) zM232 61 [(0, .inr (.inr (.inl (some (34, 0))))), (1, .inl f), (2, .inl x), (3, .inl y), (4, .inl b)] [.inl r36] _ _ _
          refine ww_go 2 (pc' := 65) (L' := [(5, .inl r36), (0, .inr (.inr (.inl (some (34, 0))))), (1, .inl f), (2, .inl x), (3, .inl y), (4, .inl b)]) (st' := [.inl r36]) (m' := m34) (o := none) rfl trivial ?_
          refine ww_if (t := 70) rfl rfl (by omega) (fun (h38 : 0 ≤ r36) => ?_) (fun (h38 : ¬ (0 ≤ r36)) => ?_)
          · show wW (zK sc) zM232 70 [(5, .inl r36), (0, .inr (.inr (.inl (some (34, 0))))), (1, .inl f), (2, .inl x), (3, .inl y), (4, .inl b)] [] _ _ _
            have b39 : 0 ≤ m34.1 55 0 (((2 * ((7 * r36) + y)) + b).toNat) ∧ m34.1 55 0 (((2 * ((7 * r36) + y)) + b).toNat) ≤ 1 := hGm34.1 55 _ rfl _ _
            refine ww_go 12 (pc' := 87) (L' := [(5, .inl r36), (0, .inr (.inr (.inl (some (34, 0))))), (1, .inl f), (2, .inl x), (3, .inl y), (4, .inl b)]) (st' := [.inl (m34.1 55 0 (((2 * ((7 * r36) + y)) + b).toNat))]) (m' := m34) (o := some ((0 < 1) ∧ (0 < 1 ∧ 0 ≤ (2 * ((7 * r36) + y)) + b ∧ (2 * ((7 * r36) + y)) + b < ((112 : Nat) : Int)))) rfl (show (0 < 1) ∧ (0 < 1 ∧ 0 ≤ (2 * ((7 * r36) + y)) + b ∧ (2 * ((7 * r36) + y)) + b < ((112 : Nat) : Int)) from by omega) ?_
            refine ww_if (t := 95) rfl rfl (by omega) (fun (h40 : m34.1 55 0 (((2 * ((7 * r36) + y)) + b).toNat) = 0) => ?_) (fun (h40 : ¬ (m34.1 55 0 (((2 * ((7 * r36) + y)) + b).toNat) = 0)) => ?_)
            · show wW (zK sc) zM232 95 [(5, .inl r36), (0, .inr (.inr (.inl (some (34, 0))))), (1, .inl f), (2, .inl x), (3, .inl y), (4, .inl b)] [] _ _ _
              refine ww_go 7 (pc' := 105) (L' := [(5, .inl r36), (0, .inr (.inr (.inl (some (34, 0))))), (1, .inl f), (2, .inl x), (3, .inl y), (4, .inl b)]) (st' := [.inl b, .inl ((7 * r36) + y), .inr (.inr (.inl (some (34, 0))))]) (m' := m34) (o := none) rfl trivial ?_
              refine ww_call (vs := [.inr (.inr (.inl (some (34, 0)))), .inl ((7 * r36) + y), .inl b]) (r := []) (p := 0 < 1) rfl rfl rfl rfl (show 0 < 1 from by omega) (zs240 (c := c) (by omega) ((7 * r36) + y) b hGm34 (by omega)) ?_
              rintro _ _ _ ⟨r41, rfl, rfl, rfl, hr42⟩
              show wW (zK sc) zM232 108 [(5, .inl r36), (0, .inr (.inr (.inl (some (34, 0))))), (1, .inl f), (2, .inl x), (3, .inl y), (4, .inl b)] [.inl r41] _ _ _
              exact ww_rI rfl rfl ⟨_, rfl, rfl, zB_mono hGm34 (by omega), hFm34, by trivial⟩
            · show wW (zK sc) zM232 90 [(5, .inl r36), (0, .inr (.inr (.inl (some (34, 0))))), (1, .inl f), (2, .inl x), (3, .inl y), (4, .inl b)] [] _ _ _
              refine ww_go 2 (pc' := 108) (L' := [(5, .inl r36), (0, .inr (.inr (.inl (some (34, 0))))), (1, .inl f), (2, .inl x), (3, .inl y), (4, .inl b)]) (st' := [.inl 8]) (m' := m34) (o := none) rfl trivial ?_
              exact ww_rI rfl rfl ⟨_, rfl, rfl, zB_mono hGm34 (by omega), hFm34, by trivial⟩
          · show wW (zK sc) zM232 68 [(5, .inl r36), (0, .inr (.inr (.inl (some (34, 0))))), (1, .inl f), (2, .inl x), (3, .inl y), (4, .inl b)] [] _ _ _
            refine ww_go 1 (pc' := 69) (L' := [(5, .inl r36), (0, .inr (.inr (.inl (some (34, 0))))), (1, .inl f), (2, .inl x), (3, .inl y), (4, .inl b)]) (st' := [.inl 0]) (m' := m34) (o := none) rfl trivial ?_
            exact ww_rI rfl rfl ⟨_, rfl, rfl, zB_mono hGm34 (by omega), hFm34, by trivial⟩
        · show wW (zK sc) zM232 53 [(0, .inr (.inr (.inl (some (34, 0))))), (1, .inl f), (2, .inl x), (3, .inl y), (4, .inl b)] [] _ _ _
          refine ww_go 1 (pc' := 54) (L' := [(0, .inr (.inr (.inl (some (34, 0))))), (1, .inl f), (2, .inl x), (3, .inl y), (4, .inl b)]) (st' := [.inl 0]) (m' := m34) (o := none) rfl trivial ?_
          exact ww_rI rfl rfl ⟨_, rfl, rfl, zB_mono hGm34 (by omega), hFm34, by trivial⟩
      · show wW (zK sc) zM232 31 [(0, .inr (.inr (.inl (some (34, 0))))), (1, .inl f), (2, .inl x), (3, .inl y), (4, .inl b)] [.inr (.inr (.inl (some (34, 0))))] _ _ _
        refine ww_go 3 (pc' := 35) (L' := [(0, .inr (.inr (.inl (some (34, 0))))), (1, .inl f), (2, .inl x), (3, .inl y), (4, .inl b)]) (st' := [.inl 1, .inl 0, .inl b, .inr (.inr (.inl (some (34, 0))))]) (m' := m0) (o := none) rfl trivial ?_
        refine ww_call (vs := [.inl b, .inl 0, .inl 1]) (r := [.inr (.inr (.inl (some (34, 0))))]) (p := True) rfl rfl rfl rfl trivial (zs207 b 0 1 (by omega)) ?_
        rintro _ _ _ ⟨r43, rfl, rfl, rfl, hr44⟩
        show wW (zK sc) zM232 38 [(0, .inr (.inr (.inl (some (34, 0))))), (1, .inl f), (2, .inl x), (3, .inl y), (4, .inl b)] [.inl r43, .inr (.inr (.inl (some (34, 0))))] _ _ _
        refine ww_if (t := 45) rfl rfl (by omega) (fun (h45 : r43 ≠ 0) => ?_) (fun (h45 : ¬ (r43 ≠ 0)) => ?_)
        · show wW (zK sc) zM232 45 [(0, .inr (.inr (.inl (some (34, 0))))), (1, .inl f), (2, .inl x), (3, .inl y), (4, .inl b)] [.inr (.inr (.inl (some (34, 0))))] _ _ _
          refine ww_go 2 (pc' := 47) (L' := [(0, .inr (.inr (.inl (some (34, 0))))), (1, .inl f), (2, .inl x), (3, .inl y), (4, .inl b)]) (st' := [.inl 1, .inl 0, .inr (.inr (.inl (some (34, 0))))]) (m' := m0) (o := none) rfl trivial ?_
          refine ww_call (vs := [.inr (.inr (.inl (some (34, 0)))), .inl 0, .inl 1]) (r := []) (p := 0 < 1) rfl rfl rfl rfl (show 0 < 1 from by omega) (zs196 (c := c) (by omega) 0 1 hG (by omega)) ?_
          rintro _ _ m48 ⟨r46, rfl, rfl, hGm48, hEm48, hr47⟩
          have hFm48 : zfr (fun k i j => (k = 34 ∧ j = 0)) m0 m48 := zfr_tr hF hEm48 (fun k i j z => z)
          show wW (zK sc) zM232 50 [(0, .inr (.inr (.inl (some (34, 0))))), (1, .inl f), (2, .inl x), (3, .inl y), (4, .inl b)] [.inl r46] _ _ _
          refine ww_if (t := 55) rfl rfl (by omega) (fun (h49 : r46 = 0) => ?_) (fun (h49 : ¬ (r46 = 0)) => ?_)
          · show wW (zK sc) zM232 55 [(0, .inr (.inr (.inl (some (34, 0))))), (1, .inl f), (2, .inl x), (3, .inl y), (4, .inl b)] [] _ _ _
            refine ww_go 3 (pc' := 58) (L' := [(0, .inr (.inr (.inl (some (34, 0))))), (1, .inl f), (2, .inl x), (3, .inl y), (4, .inl b)]) (st' := [.inl x, .inl f, .inr (.inr (.inl (some (34, 0))))]) (m' := m48) (o := none) rfl trivial ?_
            refine ww_call (vs := [.inr (.inr (.inl (some (34, 0)))), .inl f, .inl x]) (r := []) (p := 0 < 1) rfl rfl rfl rfl (show 0 < 1 from by omega) (zs231 (c := c) (by omega) f x hGm48 (by omega)) ?_
            rintro _ _ _ ⟨r50, rfl, rfl, rfl, hr51⟩
            show wW (zK sc) zM232 61 [(0, .inr (.inr (.inl (some (34, 0))))), (1, .inl f), (2, .inl x), (3, .inl y), (4, .inl b)] [.inl r50] _ _ _
            refine ww_go 2 (pc' := 65) (L' := [(5, .inl r50), (0, .inr (.inr (.inl (some (34, 0))))), (1, .inl f), (2, .inl x), (3, .inl y), (4, .inl b)]) (st' := [.inl r50]) (m' := m48) (o := none) rfl trivial ?_
            refine ww_if (t := 70) rfl rfl (by omega) (fun (h52 : 0 ≤ r50) => ?_) (fun (h52 : ¬ (0 ≤ r50)) => ?_)
            · show wW (zK sc) zM232 70 [(5, .inl r50), (0, .inr (.inr (.inl (some (34, 0))))), (1, .inl f), (2, .inl x), (3, .inl y), (4, .inl b)] [] _ _ _
              have b53 : 0 ≤ m48.1 55 0 (((2 * ((7 * r50) + y)) + b).toNat) ∧ m48.1 55 0 (((2 * ((7 * r50) + y)) + b).toNat) ≤ 1 := hGm48.1 55 _ rfl _ _
              refine ww_go 12 (pc' := 87) (L' := [(5, .inl r50), (0, .inr (.inr (.inl (some (34, 0))))), (1, .inl f), (2, .inl x), (3, .inl y), (4, .inl b)]) (st' := [.inl (m48.1 55 0 (((2 * ((7 * r50) + y)) + b).toNat))]) (m' := m48) (o := some ((0 < 1) ∧ (0 < 1 ∧ 0 ≤ (2 * ((7 * r50) + y)) + b ∧ (2 * ((7 * r50) + y)) + b < ((112 : Nat) : Int)))) rfl (show (0 < 1) ∧ (0 < 1 ∧ 0 ≤ (2 * ((7 * r50) + y)) + b ∧ (2 * ((7 * r50) + y)) + b < ((112 : Nat) : Int)) from by omega) ?_
              refine ww_if (t := 95) rfl rfl (by omega) (fun (h54 : m48.1 55 0 (((2 * ((7 * r50) + y)) + b).toNat) = 0) => ?_) (fun (h54 : ¬ (m48.1 55 0 (((2 * ((7 * r50) + y)) + b).toNat) = 0)) => ?_)
              · show wW (zK sc) zM232 95 [(5, .inl r50), (0, .inr (.inr (.inl (some (34, 0))))), (1, .inl f), (2, .inl x), (3, .inl y), (4, .inl b)] [] _ _ _
                refine ww_go 7 (pc' := 105) (L' := [(5, .inl r50), (0, .inr (.inr (.inl (some (34, 0))))), (1, .inl f), (2, .inl x), (3, .inl y), (4, .inl b)]) (st' := [.inl b, .inl ((7 * r50) + y), .inr (.inr (.inl (some (34, 0))))]) (m' := m48) (o := none) rfl trivial ?_
                refine ww_call (vs := [.inr (.inr (.inl (some (34, 0)))), .inl ((7 * r50) + y), .inl b]) (r := []) (p := 0 < 1) rfl rfl rfl rfl (show 0 < 1 from by omega) (zs240 (c := c) (by omega) ((7 * r50) + y) b hGm48 (by omega)) ?_
                rintro _ _ _ ⟨r55, rfl, rfl, rfl, hr56⟩
                show wW (zK sc) zM232 108 [(5, .inl r50), (0, .inr (.inr (.inl (some (34, 0))))), (1, .inl f), (2, .inl x), (3, .inl y), (4, .inl b)] [.inl r55] _ _ _
                exact ww_rI rfl rfl ⟨_, rfl, rfl, zB_mono hGm48 (by omega), hFm48, by trivial⟩
              · show wW (zK sc) zM232 90 [(5, .inl r50), (0, .inr (.inr (.inl (some (34, 0))))), (1, .inl f), (2, .inl x), (3, .inl y), (4, .inl b)] [] _ _ _
                refine ww_go 2 (pc' := 108) (L' := [(5, .inl r50), (0, .inr (.inr (.inl (some (34, 0))))), (1, .inl f), (2, .inl x), (3, .inl y), (4, .inl b)]) (st' := [.inl 8]) (m' := m48) (o := none) rfl trivial ?_
                exact ww_rI rfl rfl ⟨_, rfl, rfl, zB_mono hGm48 (by omega), hFm48, by trivial⟩
            · show wW (zK sc) zM232 68 [(5, .inl r50), (0, .inr (.inr (.inl (some (34, 0))))), (1, .inl f), (2, .inl x), (3, .inl y), (4, .inl b)] [] _ _ _
              refine ww_go 1 (pc' := 69) (L' := [(5, .inl r50), (0, .inr (.inr (.inl (some (34, 0))))), (1, .inl f), (2, .inl x), (3, .inl y), (4, .inl b)]) (st' := [.inl 0]) (m' := m48) (o := none) rfl trivial ?_
              exact ww_rI rfl rfl ⟨_, rfl, rfl, zB_mono hGm48 (by omega), hFm48, by trivial⟩
          · show wW (zK sc) zM232 53 [(0, .inr (.inr (.inl (some (34, 0))))), (1, .inl f), (2, .inl x), (3, .inl y), (4, .inl b)] [] _ _ _
            refine ww_go 1 (pc' := 54) (L' := [(0, .inr (.inr (.inl (some (34, 0))))), (1, .inl f), (2, .inl x), (3, .inl y), (4, .inl b)]) (st' := [.inl 0]) (m' := m48) (o := none) rfl trivial ?_
            exact ww_rI rfl rfl ⟨_, rfl, rfl, zB_mono hGm48 (by omega), hFm48, by trivial⟩
        · show wW (zK sc) zM232 41 [(0, .inr (.inr (.inl (some (34, 0))))), (1, .inl f), (2, .inl x), (3, .inl y), (4, .inl b)] [.inr (.inr (.inl (some (34, 0))))] _ _ _
          refine ww_go 3 (pc' := 47) (L' := [(0, .inr (.inr (.inl (some (34, 0))))), (1, .inl f), (2, .inl x), (3, .inl y), (4, .inl b)]) (st' := [.inl 1, .inl 1, .inr (.inr (.inl (some (34, 0))))]) (m' := m0) (o := none) rfl trivial ?_
          refine ww_call (vs := [.inr (.inr (.inl (some (34, 0)))), .inl 1, .inl 1]) (r := []) (p := 0 < 1) rfl rfl rfl rfl (show 0 < 1 from by omega) (zs196 (c := c) (by omega) 1 1 hG (by omega)) ?_
          rintro _ _ m59 ⟨r57, rfl, rfl, hGm59, hEm59, hr58⟩
          have hFm59 : zfr (fun k i j => (k = 34 ∧ j = 0)) m0 m59 := zfr_tr hF hEm59 (fun k i j z => z)
          show wW (zK sc) zM232 50 [(0, .inr (.inr (.inl (some (34, 0))))), (1, .inl f), (2, .inl x), (3, .inl y), (4, .inl b)] [.inl r57] _ _ _
          refine ww_if (t := 55) rfl rfl (by omega) (fun (h60 : r57 = 0) => ?_) (fun (h60 : ¬ (r57 = 0)) => ?_)
          · show wW (zK sc) zM232 55 [(0, .inr (.inr (.inl (some (34, 0))))), (1, .inl f), (2, .inl x), (3, .inl y), (4, .inl b)] [] _ _ _
            refine ww_go 3 (pc' := 58) (L' := [(0, .inr (.inr (.inl (some (34, 0))))), (1, .inl f), (2, .inl x), (3, .inl y), (4, .inl b)]) (st' := [.inl x, .inl f, .inr (.inr (.inl (some (34, 0))))]) (m' := m59) (o := none) rfl trivial ?_
            refine ww_call (vs := [.inr (.inr (.inl (some (34, 0)))), .inl f, .inl x]) (r := []) (p := 0 < 1) rfl rfl rfl rfl (show 0 < 1 from by omega) (zs231 (c := c) (by omega) f x hGm59 (by omega)) ?_
            rintro _ _ _ ⟨r61, rfl, rfl, rfl, hr62⟩
            show wW (zK sc) zM232 61 [(0, .inr (.inr (.inl (some (34, 0))))), (1, .inl f), (2, .inl x), (3, .inl y), (4, .inl b)] [.inl r61] _ _ _
            refine ww_go 2 (pc' := 65) (L' := [(5, .inl r61), (0, .inr (.inr (.inl (some (34, 0))))), (1, .inl f), (2, .inl x), (3, .inl y), (4, .inl b)]) (st' := [.inl r61]) (m' := m59) (o := none) rfl trivial ?_
            refine ww_if (t := 70) rfl rfl (by omega) (fun (h63 : 0 ≤ r61) => ?_) (fun (h63 : ¬ (0 ≤ r61)) => ?_)
            · show wW (zK sc) zM232 70 [(5, .inl r61), (0, .inr (.inr (.inl (some (34, 0))))), (1, .inl f), (2, .inl x), (3, .inl y), (4, .inl b)] [] _ _ _
              have b64 : 0 ≤ m59.1 55 0 (((2 * ((7 * r61) + y)) + b).toNat) ∧ m59.1 55 0 (((2 * ((7 * r61) + y)) + b).toNat) ≤ 1 := hGm59.1 55 _ rfl _ _
              refine ww_go 12 (pc' := 87) (L' := [(5, .inl r61), (0, .inr (.inr (.inl (some (34, 0))))), (1, .inl f), (2, .inl x), (3, .inl y), (4, .inl b)]) (st' := [.inl (m59.1 55 0 (((2 * ((7 * r61) + y)) + b).toNat))]) (m' := m59) (o := some ((0 < 1) ∧ (0 < 1 ∧ 0 ≤ (2 * ((7 * r61) + y)) + b ∧ (2 * ((7 * r61) + y)) + b < ((112 : Nat) : Int)))) rfl (show (0 < 1) ∧ (0 < 1 ∧ 0 ≤ (2 * ((7 * r61) + y)) + b ∧ (2 * ((7 * r61) + y)) + b < ((112 : Nat) : Int)) from by omega) ?_
              refine ww_if (t := 95) rfl rfl (by omega) (fun (h65 : m59.1 55 0 (((2 * ((7 * r61) + y)) + b).toNat) = 0) => ?_) (fun (h65 : ¬ (m59.1 55 0 (((2 * ((7 * r61) + y)) + b).toNat) = 0)) => ?_)
              · show wW (zK sc) zM232 95 [(5, .inl r61), (0, .inr (.inr (.inl (some (34, 0))))), (1, .inl f), (2, .inl x), (3, .inl y), (4, .inl b)] [] _ _ _
                refine ww_go 7 (pc' := 105) (L' := [(5, .inl r61), (0, .inr (.inr (.inl (some (34, 0))))), (1, .inl f), (2, .inl x), (3, .inl y), (4, .inl b)]) (st' := [.inl b, .inl ((7 * r61) + y), .inr (.inr (.inl (some (34, 0))))]) (m' := m59) (o := none) rfl trivial ?_
                refine ww_call (vs := [.inr (.inr (.inl (some (34, 0)))), .inl ((7 * r61) + y), .inl b]) (r := []) (p := 0 < 1) rfl rfl rfl rfl (show 0 < 1 from by omega) (zs240 (c := c) (by omega) ((7 * r61) + y) b hGm59 (by omega)) ?_
                rintro _ _ _ ⟨r66, rfl, rfl, rfl, hr67⟩
                show wW (zK sc) zM232 108 [(5, .inl r61), (0, .inr (.inr (.inl (some (34, 0))))), (1, .inl f), (2, .inl x), (3, .inl y), (4, .inl b)] [.inl r66] _ _ _
                exact ww_rI rfl rfl ⟨_, rfl, rfl, zB_mono hGm59 (by omega), hFm59, by trivial⟩
              · show wW (zK sc) zM232 90 [(5, .inl r61), (0, .inr (.inr (.inl (some (34, 0))))), (1, .inl f), (2, .inl x), (3, .inl y), (4, .inl b)] [] _ _ _
                refine ww_go 2 (pc' := 108) (L' := [(5, .inl r61), (0, .inr (.inr (.inl (some (34, 0))))), (1, .inl f), (2, .inl x), (3, .inl y), (4, .inl b)]) (st' := [.inl 8]) (m' := m59) (o := none) rfl trivial ?_
                exact ww_rI rfl rfl ⟨_, rfl, rfl, zB_mono hGm59 (by omega), hFm59, by trivial⟩
            · show wW (zK sc) zM232 68 [(5, .inl r61), (0, .inr (.inr (.inl (some (34, 0))))), (1, .inl f), (2, .inl x), (3, .inl y), (4, .inl b)] [] _ _ _
              refine ww_go 1 (pc' := 69) (L' := [(5, .inl r61), (0, .inr (.inr (.inl (some (34, 0))))), (1, .inl f), (2, .inl x), (3, .inl y), (4, .inl b)]) (st' := [.inl 0]) (m' := m59) (o := none) rfl trivial ?_
              exact ww_rI rfl rfl ⟨_, rfl, rfl, zB_mono hGm59 (by omega), hFm59, by trivial⟩
          · show wW (zK sc) zM232 53 [(0, .inr (.inr (.inl (some (34, 0))))), (1, .inl f), (2, .inl x), (3, .inl y), (4, .inl b)] [] _ _ _
            refine ww_go 1 (pc' := 54) (L' := [(0, .inr (.inr (.inl (some (34, 0))))), (1, .inl f), (2, .inl x), (3, .inl y), (4, .inl b)]) (st' := [.inl 0]) (m' := m59) (o := none) rfl trivial ?_
            exact ww_rI rfl rfl ⟨_, rfl, rfl, zB_mono hGm59 (by omega), hFm59, by trivial⟩
set_option maxRecDepth 8000 in
/-- Mo.released -/
theorem zs235 {sc : xSc} {n : Nat × Nat} {m0 : wm} {c : Int} (hc : 0 ≤ c ∧ c ≤ 1000000) (f : Int) (hG : zB c m0) (h0 : -2147483648 ≤ f ∧ f ≤ 2147483647) : wX (zK sc) 235 [.inr (.inr (.inl (some (34, 0)))), .inl f] n m0 (wr (fun vv n1 m1 => ∃ r : Int, vv = some (.inl r) ∧ n = n1 ∧ zB c m1 ∧ zfr (fun k i j => (k = 34 ∧ j = 0)) m0 m1 ∧ True)) := by
  refine wX_of (N := zM235) rfl (Nat.le_of_ble_eq_true rfl) ?_
  show wW (zK sc) zM235 0 [(0, .inr (.inr (.inl (some (34, 0))))), (1, .inl f)] [] n m0 _
  have hF : zfr (fun k i j => (k = 34 ∧ j = 0)) m0 m0 := zfr_rf
  refine ww_go 4 (pc' := 4) (L' := [(0, .inr (.inr (.inl (some (34, 0))))), (1, .inl f)]) (st' := [.inl 1, .inl 0, .inl f, .inr (.inr (.inl (some (34, 0))))]) (m' := m0) (o := none) rfl trivial ?_
  refine ww_call (vs := [.inl f, .inl 0, .inl 1]) (r := [.inr (.inr (.inl (some (34, 0))))]) (p := True) rfl rfl rfl rfl trivial (zs207 f 0 1 (by omega)) ?_
  rintro _ _ _ ⟨r1, rfl, rfl, rfl, hr2⟩
  show wW (zK sc) zM235 7 [(0, .inr (.inr (.inl (some (34, 0))))), (1, .inl f)] [.inl r1, .inr (.inr (.inl (some (34, 0))))] _ _ _
  refine ww_if (t := 14) rfl rfl (by omega) (fun (h3 : r1 ≠ 0) => ?_) (fun (h3 : ¬ (r1 ≠ 0)) => ?_)
  · show wW (zK sc) zM235 14 [(0, .inr (.inr (.inl (some (34, 0))))), (1, .inl f)] [.inr (.inr (.inl (some (34, 0))))] _ _ _
    refine ww_go 2 (pc' := 16) (L' := [(0, .inr (.inr (.inl (some (34, 0))))), (1, .inl f)]) (st' := [.inl 1, .inl 0, .inr (.inr (.inl (some (34, 0))))]) (m' := m0) (o := none) rfl trivial ?_
    refine ww_call (vs := [.inr (.inr (.inl (some (34, 0)))), .inl 0, .inl 1]) (r := []) (p := 0 < 1) rfl rfl rfl rfl (show 0 < 1 from by omega) (zs196 (c := c) (by omega) 0 1 hG (by omega)) ?_
    rintro _ _ m6 ⟨r4, rfl, rfl, hGm6, hEm6, hr5⟩
    have hFm6 : zfr (fun k i j => (k = 34 ∧ j = 0)) m0 m6 := zfr_tr hF hEm6 (fun k i j z => z)
    show wW (zK sc) zM235 19 [(0, .inr (.inr (.inl (some (34, 0))))), (1, .inl f)] [.inl r4] _ _ _
    refine ww_if (t := 26) rfl rfl (by omega) (fun (h7 : r4 = 0) => ?_) (fun (h7 : ¬ (r4 = 0)) => ?_)
    · show wW (zK sc) zM235 26 [(0, .inr (.inr (.inl (some (34, 0))))), (1, .inl f)] [] _ _ _
      have b8 : 0 ≤ m6.1 64 0 f.toNat ∧ m6.1 64 0 f.toNat ≤ 65535 := hGm6.1 64 _ rfl _ _
      refine ww_go 4 (pc' := 32) (L' := [(0, .inr (.inr (.inl (some (34, 0))))), (1, .inl f)]) (st' := [.inl (m6.1 64 0 f.toNat)]) (m' := m6) (o := some ((0 < 1) ∧ (0 < 1 ∧ 0 ≤ f ∧ f < ((2 : Nat) : Int)))) rfl (show (0 < 1) ∧ (0 < 1 ∧ 0 ≤ f ∧ f < ((2 : Nat) : Int)) from by omega) ?_
      exact ww_rI rfl rfl ⟨_, rfl, rfl, zB_mono hGm6 (by omega), hFm6, by trivial⟩
    · show wW (zK sc) zM235 22 [(0, .inr (.inr (.inl (some (34, 0))))), (1, .inl f)] [] _ _ _
      refine ww_go 2 (pc' := 32) (L' := [(0, .inr (.inr (.inl (some (34, 0))))), (1, .inl f)]) (st' := [.inl 0]) (m' := m6) (o := none) rfl trivial ?_
      exact ww_rI rfl rfl ⟨_, rfl, rfl, zB_mono hGm6 (by omega), hFm6, by trivial⟩
  · show wW (zK sc) zM235 10 [(0, .inr (.inr (.inl (some (34, 0))))), (1, .inl f)] [.inr (.inr (.inl (some (34, 0))))] _ _ _
    refine ww_go 3 (pc' := 16) (L' := [(0, .inr (.inr (.inl (some (34, 0))))), (1, .inl f)]) (st' := [.inl 1, .inl 1, .inr (.inr (.inl (some (34, 0))))]) (m' := m0) (o := none) rfl trivial ?_
    refine ww_call (vs := [.inr (.inr (.inl (some (34, 0)))), .inl 1, .inl 1]) (r := []) (p := 0 < 1) rfl rfl rfl rfl (show 0 < 1 from by omega) (zs196 (c := c) (by omega) 1 1 hG (by omega)) ?_
    rintro _ _ m11 ⟨r9, rfl, rfl, hGm11, hEm11, hr10⟩
    have hFm11 : zfr (fun k i j => (k = 34 ∧ j = 0)) m0 m11 := zfr_tr hF hEm11 (fun k i j z => z)
    show wW (zK sc) zM235 19 [(0, .inr (.inr (.inl (some (34, 0))))), (1, .inl f)] [.inl r9] _ _ _
    refine ww_if (t := 26) rfl rfl (by omega) (fun (h12 : r9 = 0) => ?_) (fun (h12 : ¬ (r9 = 0)) => ?_)
    · show wW (zK sc) zM235 26 [(0, .inr (.inr (.inl (some (34, 0))))), (1, .inl f)] [] _ _ _
      have b13 : 0 ≤ m11.1 64 0 f.toNat ∧ m11.1 64 0 f.toNat ≤ 65535 := hGm11.1 64 _ rfl _ _
      refine ww_go 4 (pc' := 32) (L' := [(0, .inr (.inr (.inl (some (34, 0))))), (1, .inl f)]) (st' := [.inl (m11.1 64 0 f.toNat)]) (m' := m11) (o := some ((0 < 1) ∧ (0 < 1 ∧ 0 ≤ f ∧ f < ((2 : Nat) : Int)))) rfl (show (0 < 1) ∧ (0 < 1 ∧ 0 ≤ f ∧ f < ((2 : Nat) : Int)) from by omega) ?_
      exact ww_rI rfl rfl ⟨_, rfl, rfl, zB_mono hGm11 (by omega), hFm11, by trivial⟩
    · show wW (zK sc) zM235 22 [(0, .inr (.inr (.inl (some (34, 0))))), (1, .inl f)] [] _ _ _
      refine ww_go 2 (pc' := 32) (L' := [(0, .inr (.inr (.inl (some (34, 0))))), (1, .inl f)]) (st' := [.inl 0]) (m' := m11) (o := none) rfl trivial ?_
      exact ww_rI rfl rfl ⟨_, rfl, rfl, zB_mono hGm11 (by omega), hFm11, by trivial⟩
set_option maxRecDepth 8000 in
/-- Mo.file -/
theorem zs198 {sc : xSc} {n : Nat × Nat} {m0 : wm} {c : Int} (hc : 0 ≤ c ∧ c ≤ 1000000) (f : Int) (x : Int) (y : Int) (b : Int) (hG : zB c m0) (h0 : -2147483648 ≤ f ∧ f ≤ 2147483647 ∧ -2147483648 ≤ x ∧ x ≤ 2147483647 ∧ -2147483648 ≤ y ∧ y ≤ 2147483647 ∧ 0 ≤ b ∧ b ≤ 1) : wX (zK sc) 198 [.inr (.inr (.inl (some (34, 0)))), .inl f, .inl x, .inl y, .inl b] n m0 (wr (fun vv n1 m1 => ∃ r : Int, vv = some (.inl r) ∧ n = n1 ∧ zB c m1 ∧ zfr (fun k i j => (k = 34 ∧ j = 0)) m0 m1 ∧ True)) := by
  refine wX_of (N := zM198) rfl (Nat.le_of_ble_eq_true rfl) ?_
  show wW (zK sc) zM198 0 [(0, .inr (.inr (.inl (some (34, 0))))), (1, .inl f), (2, .inl x), (3, .inl y), (4, .inl b)] [] n m0 _
  have hF : zfr (fun k i j => (k = 34 ∧ j = 0)) m0 m0 := zfr_rf
  refine ww_go 4 (pc' := 4) (L' := [(0, .inr (.inr (.inl (some (34, 0))))), (1, .inl f), (2, .inl x), (3, .inl y), (4, .inl b)]) (st' := [.inl 1, .inl 0, .inl f, .inr (.inr (.inl (some (34, 0))))]) (m' := m0) (o := none) rfl trivial ?_
  refine ww_call (vs := [.inl f, .inl 0, .inl 1]) (r := [.inr (.inr (.inl (some (34, 0))))]) (p := True) rfl rfl rfl rfl trivial (zs207 f 0 1 (by omega)) ?_
  rintro _ _ _ ⟨r1, rfl, rfl, rfl, hr2⟩
  show wW (zK sc) zM198 7 [(0, .inr (.inr (.inl (some (34, 0))))), (1, .inl f), (2, .inl x), (3, .inl y), (4, .inl b)] [.inl r1, .inr (.inr (.inl (some (34, 0))))] _ _ _
  refine ww_if (t := 14) rfl rfl (by omega) (fun (h3 : r1 ≠ 0) => ?_) (fun (h3 : ¬ (r1 ≠ 0)) => ?_)
  · show wW (zK sc) zM198 14 [(0, .inr (.inr (.inl (some (34, 0))))), (1, .inl f), (2, .inl x), (3, .inl y), (4, .inl b)] [.inr (.inr (.inl (some (34, 0))))] _ _ _
    refine ww_go 2 (pc' := 16) (L' := [(0, .inr (.inr (.inl (some (34, 0))))), (1, .inl f), (2, .inl x), (3, .inl y), (4, .inl b)]) (st' := [.inl 1, .inl 0, .inr (.inr (.inl (some (34, 0))))]) (m' := m0) (o := none) rfl trivial ?_
    refine ww_call (vs := [.inr (.inr (.inl (some (34, 0)))), .inl 0, .inl 1]) (r := []) (p := 0 < 1) rfl rfl rfl rfl (show 0 < 1 from by omega) (zs196 (c := c) (by omega) 0 1 hG (by omega)) ?_
    rintro _ _ m6 ⟨r4, rfl, rfl, hGm6, hEm6, hr5⟩
    have hFm6 : zfr (fun k i j => (k = 34 ∧ j = 0)) m0 m6 := zfr_tr hF hEm6 (fun k i j z => z)
    show wW (zK sc) zM198 19 [(0, .inr (.inr (.inl (some (34, 0))))), (1, .inl f), (2, .inl x), (3, .inl y), (4, .inl b)] [.inl r4] _ _ _
    refine ww_if (t := 51) rfl rfl (by omega) (fun (h7 : r4 ≠ 0) => ?_) (fun (h7 : ¬ (r4 ≠ 0)) => ?_)
    · show wW (zK sc) zM198 51 [(0, .inr (.inr (.inl (some (34, 0))))), (1, .inl f), (2, .inl x), (3, .inl y), (4, .inl b)] [] _ _ _
      refine ww_go 1 (pc' := 52) (L' := [(0, .inr (.inr (.inl (some (34, 0))))), (1, .inl f), (2, .inl x), (3, .inl y), (4, .inl b)]) (st' := [.inl 0]) (m' := m6) (o := none) rfl trivial ?_
      exact ww_rI rfl rfl ⟨_, rfl, rfl, zB_mono hGm6 (by omega), hFm6, by trivial⟩
    · show wW (zK sc) zM198 22 [(0, .inr (.inr (.inl (some (34, 0))))), (1, .inl f), (2, .inl x), (3, .inl y), (4, .inl b)] [] _ _ _
      have b8 : 0 ≤ m6.1 67 0 f.toNat ∧ m6.1 67 0 f.toNat ≤ 6 := hGm6.1 67 _ rfl _ _
      refine ww_go 9 (pc' := 33) (L' := [(0, .inr (.inr (.inl (some (34, 0))))), (1, .inl f), (2, .inl x), (3, .inl y), (4, .inl b)]) (st' := [.inl ((m6.1 67 0 f.toNat) - 1), .inl 0, .inl x, .inr (.inr (.inl (some (34, 0))))]) (m' := m6) (o := some ((0 < 1) ∧ (0 < 1 ∧ 0 ≤ f ∧ f < ((2 : Nat) : Int)))) rfl (show (0 < 1) ∧ (0 < 1 ∧ 0 ≤ f ∧ f < ((2 : Nat) : Int)) from by omega) ?_
      refine ww_call (vs := [.inl x, .inl 0, .inl ((m6.1 67 0 f.toNat) - 1)]) (r := [.inr (.inr (.inl (some (34, 0))))]) (p := True) rfl rfl rfl rfl trivial (zs207 x 0 ((m6.1 67 0 f.toNat) - 1) (by omega)) ?_
      rintro _ _ _ ⟨r9, rfl, rfl, rfl, hr10⟩
      show wW (zK sc) zM198 36 [(0, .inr (.inr (.inl (some (34, 0))))), (1, .inl f), (2, .inl x), (3, .inl y), (4, .inl b)] [.inl r9, .inr (.inr (.inl (some (34, 0))))] _ _ _
      refine ww_if (t := 43) rfl rfl (by omega) (fun (h11 : r9 ≠ 0) => ?_) (fun (h11 : ¬ (r9 ≠ 0)) => ?_)
      · show wW (zK sc) zM198 43 [(0, .inr (.inr (.inl (some (34, 0))))), (1, .inl f), (2, .inl x), (3, .inl y), (4, .inl b)] [.inr (.inr (.inl (some (34, 0))))] _ _ _
        refine ww_go 2 (pc' := 45) (L' := [(0, .inr (.inr (.inl (some (34, 0))))), (1, .inl f), (2, .inl x), (3, .inl y), (4, .inl b)]) (st' := [.inl 2, .inl 0, .inr (.inr (.inl (some (34, 0))))]) (m' := m6) (o := none) rfl trivial ?_
        refine ww_call (vs := [.inr (.inr (.inl (some (34, 0)))), .inl 0, .inl 2]) (r := []) (p := 0 < 1) rfl rfl rfl rfl (show 0 < 1 from by omega) (zs196 (c := c) (by omega) 0 2 hGm6 (by omega)) ?_
        rintro _ _ m14 ⟨r12, rfl, rfl, hGm14, hEm14, hr13⟩
        have hFm14 : zfr (fun k i j => (k = 34 ∧ j = 0)) m0 m14 := zfr_tr hFm6 hEm14 (fun k i j z => z)
        show wW (zK sc) zM198 48 [(0, .inr (.inr (.inl (some (34, 0))))), (1, .inl f), (2, .inl x), (3, .inl y), (4, .inl b)] [.inl r12] _ _ _
        refine ww_if (t := 53) rfl rfl (by omega) (fun (h15 : r12 = 0) => ?_) (fun (h15 : ¬ (r12 = 0)) => ?_)
        · show wW (zK sc) zM198 53 [(0, .inr (.inr (.inl (some (34, 0))))), (1, .inl f), (2, .inl x), (3, .inl y), (4, .inl b)] [] _ _ _
          refine ww_go 7 (pc' := 63) (L' := [(5, .inl ((6 * f) + x)), (0, .inr (.inr (.inl (some (34, 0))))), (1, .inl f), (2, .inl x), (3, .inl y), (4, .inl b)]) (st' := [.inl b]) (m' := m14) (o := none) rfl trivial ?_
          refine ww_if (t := 76) rfl rfl (by omega) (fun (h16 : b = 0) => ?_) (fun (h16 : ¬ (b = 0)) => ?_)
          · show wW (zK sc) zM198 76 [(5, .inl ((6 * f) + x)), (0, .inr (.inr (.inl (some (34, 0))))), (1, .inl f), (2, .inl x), (3, .inl y), (4, .inl b)] [] _ _ _
            have b17 := zRN hGm14 ((7 * ((6 * f) + x)).toNat)
            refine ww_go 13 (pc' := 95) (L' := [(6, .inl (m14.1 68 0 ((7 * ((6 * f) + x)).toNat))), (5, .inl ((6 * f) + x)), (0, .inr (.inr (.inl (some (34, 0))))), (1, .inl f), (2, .inl x), (3, .inl y), (4, .inl b)]) (st' := [.inl ((m14.1 68 0 ((7 * ((6 * f) + x)).toNat)) - 1), .inl ((-1)), .inl y, .inr (.inr (.inl (some (34, 0))))]) (m' := m14) (o := some ((0 < 1) ∧ (0 < 1 ∧ 0 ≤ 7 * ((6 * f) + x) ∧ 7 * ((6 * f) + x) < ((84 : Nat) : Int)))) rfl (show (0 < 1) ∧ (0 < 1 ∧ 0 ≤ 7 * ((6 * f) + x) ∧ 7 * ((6 * f) + x) < ((84 : Nat) : Int)) from by omega) ?_
            refine ww_call (vs := [.inl y, .inl ((-1)), .inl ((m14.1 68 0 ((7 * ((6 * f) + x)).toNat)) - 1)]) (r := [.inr (.inr (.inl (some (34, 0))))]) (p := True) rfl rfl rfl rfl trivial (zs207 y ((-1)) ((m14.1 68 0 ((7 * ((6 * f) + x)).toNat)) - 1) (by omega)) ?_
            rintro _ _ _ ⟨r18, rfl, rfl, rfl, hr19⟩
            show wW (zK sc) zM198 98 [(6, .inl (m14.1 68 0 ((7 * ((6 * f) + x)).toNat))), (5, .inl ((6 * f) + x)), (0, .inr (.inr (.inl (some (34, 0))))), (1, .inl f), (2, .inl x), (3, .inl y), (4, .inl b)] [.inl r18, .inr (.inr (.inl (some (34, 0))))] _ _ _
            refine ww_if (t := 105) rfl rfl (by omega) (fun (h20 : r18 ≠ 0) => ?_) (fun (h20 : ¬ (r18 ≠ 0)) => ?_)
            · show wW (zK sc) zM198 105 [(6, .inl (m14.1 68 0 ((7 * ((6 * f) + x)).toNat))), (5, .inl ((6 * f) + x)), (0, .inr (.inr (.inl (some (34, 0))))), (1, .inl f), (2, .inl x), (3, .inl y), (4, .inl b)] [.inr (.inr (.inl (some (34, 0))))] _ _ _
              refine ww_go 2 (pc' := 107) (L' := [(6, .inl (m14.1 68 0 ((7 * ((6 * f) + x)).toNat))), (5, .inl ((6 * f) + x)), (0, .inr (.inr (.inl (some (34, 0))))), (1, .inl f), (2, .inl x), (3, .inl y), (4, .inl b)]) (st' := [.inl 2, .inl 0, .inr (.inr (.inl (some (34, 0))))]) (m' := m14) (o := none) rfl trivial ?_
              refine ww_call (vs := [.inr (.inr (.inl (some (34, 0)))), .inl 0, .inl 2]) (r := []) (p := 0 < 1) rfl rfl rfl rfl (show 0 < 1 from by omega) (zs196 (c := c) (by omega) 0 2 hGm14 (by omega)) ?_
              rintro _ _ m23 ⟨r21, rfl, rfl, hGm23, hEm23, hr22⟩
              have hFm23 : zfr (fun k i j => (k = 34 ∧ j = 0)) m0 m23 := zfr_tr hFm14 hEm23 (fun k i j z => z)
              show wW (zK sc) zM198 110 [(6, .inl (m14.1 68 0 ((7 * ((6 * f) + x)).toNat))), (5, .inl ((6 * f) + x)), (0, .inr (.inr (.inl (some (34, 0))))), (1, .inl f), (2, .inl x), (3, .inl y), (4, .inl b)] [.inl r21] _ _ _
              refine ww_if (t := 115) rfl rfl (by omega) (fun (h24 : r21 = 0) => ?_) (fun (h24 : ¬ (r21 = 0)) => ?_)
              · show wW (zK sc) zM198 115 [(6, .inl (m14.1 68 0 ((7 * ((6 * f) + x)).toNat))), (5, .inl ((6 * f) + x)), (0, .inr (.inr (.inl (some (34, 0))))), (1, .inl f), (2, .inl x), (3, .inl y), (4, .inl b)] [] _ _ _
                refine ww_go 1 (pc' := 116) (L' := [(6, .inl (m14.1 68 0 ((7 * ((6 * f) + x)).toNat))), (5, .inl ((6 * f) + x)), (0, .inr (.inr (.inl (some (34, 0))))), (1, .inl f), (2, .inl x), (3, .inl y), (4, .inl b)]) (st' := [.inl y]) (m' := m23) (o := none) rfl trivial ?_
                refine ww_if (t := 124) rfl rfl (by omega) (fun (h25 : 0 ≤ y) => ?_) (fun (h25 : ¬ (0 ≤ y)) => ?_)
                · show wW (zK sc) zM198 124 [(6, .inl (m14.1 68 0 ((7 * ((6 * f) + x)).toNat))), (5, .inl ((6 * f) + x)), (0, .inr (.inr (.inl (some (34, 0))))), (1, .inl f), (2, .inl x), (3, .inl y), (4, .inl b)] [] _ _ _
                  refine ww_go 1 (pc' := 126) (L' := [(6, .inl (m14.1 68 0 ((7 * ((6 * f) + x)).toNat))), (5, .inl ((6 * f) + x)), (0, .inr (.inr (.inl (some (34, 0))))), (1, .inl f), (2, .inl x), (3, .inl y), (4, .inl b)]) (st' := [.inl b]) (m' := m23) (o := none) rfl trivial ?_
                  refine ww_if (t := 144) rfl rfl (by omega) (fun (h26 : b = 0) => ?_) (fun (h26 : ¬ (b = 0)) => absurd (show b = 0 from by omega) h26)
                  show wW (zK sc) zM198 144 [(6, .inl (m14.1 68 0 ((7 * ((6 * f) + x)).toNat))), (5, .inl ((6 * f) + x)), (0, .inr (.inr (.inl (some (34, 0))))), (1, .inl f), (2, .inl x), (3, .inl y), (4, .inl b)] [] _ _ _
                  have b27 := zRN hGm23 ((((7 * ((6 * f) + x)) + 1) + y).toNat)
                  refine ww_go 10 (pc' := 158) (L' := [(6, .inl (m14.1 68 0 ((7 * ((6 * f) + x)).toNat))), (5, .inl ((6 * f) + x)), (0, .inr (.inr (.inl (some (34, 0))))), (1, .inl f), (2, .inl x), (3, .inl y), (4, .inl b)]) (st' := [.inl (m23.1 68 0 ((((7 * ((6 * f) + x)) + 1) + y).toNat))]) (m' := m23) (o := some ((0 < 1) ∧ (0 < 1 ∧ 0 ≤ ((7 * ((6 * f) + x)) + 1) + y ∧ ((7 * ((6 * f) + x)) + 1) + y < ((84 : Nat) : Int)))) rfl (show (0 < 1) ∧ (0 < 1 ∧ 0 ≤ ((7 * ((6 * f) + x)) + 1) + y ∧ ((7 * ((6 * f) + x)) + 1) + y < ((84 : Nat) : Int)) from by omega) ?_
                  exact ww_rI rfl rfl ⟨_, rfl, rfl, zB_mono hGm23 (by omega), hFm23, by trivial⟩
                · show wW (zK sc) zM198 119 [(6, .inl (m14.1 68 0 ((7 * ((6 * f) + x)).toNat))), (5, .inl ((6 * f) + x)), (0, .inr (.inr (.inl (some (34, 0))))), (1, .inl f), (2, .inl x), (3, .inl y), (4, .inl b)] [] _ _ _
                  refine ww_go 2 (pc' := 158) (L' := [(6, .inl (m14.1 68 0 ((7 * ((6 * f) + x)).toNat))), (5, .inl ((6 * f) + x)), (0, .inr (.inr (.inl (some (34, 0))))), (1, .inl f), (2, .inl x), (3, .inl y), (4, .inl b)]) (st' := [.inl (m14.1 68 0 ((7 * ((6 * f) + x)).toNat))]) (m' := m23) (o := none) rfl trivial ?_
                  exact ww_rI rfl rfl ⟨_, rfl, rfl, zB_mono hGm23 (by omega), hFm23, by trivial⟩
              · show wW (zK sc) zM198 113 [(6, .inl (m14.1 68 0 ((7 * ((6 * f) + x)).toNat))), (5, .inl ((6 * f) + x)), (0, .inr (.inr (.inl (some (34, 0))))), (1, .inl f), (2, .inl x), (3, .inl y), (4, .inl b)] [] _ _ _
                refine ww_go 1 (pc' := 114) (L' := [(6, .inl (m14.1 68 0 ((7 * ((6 * f) + x)).toNat))), (5, .inl ((6 * f) + x)), (0, .inr (.inr (.inl (some (34, 0))))), (1, .inl f), (2, .inl x), (3, .inl y), (4, .inl b)]) (st' := [.inl 0]) (m' := m23) (o := none) rfl trivial ?_
                exact ww_rI rfl rfl ⟨_, rfl, rfl, zB_mono hGm23 (by omega), hFm23, by trivial⟩
            · show wW (zK sc) zM198 101 [(6, .inl (m14.1 68 0 ((7 * ((6 * f) + x)).toNat))), (5, .inl ((6 * f) + x)), (0, .inr (.inr (.inl (some (34, 0))))), (1, .inl f), (2, .inl x), (3, .inl y), (4, .inl b)] [.inr (.inr (.inl (some (34, 0))))] _ _ _
              refine ww_go 3 (pc' := 107) (L' := [(6, .inl (m14.1 68 0 ((7 * ((6 * f) + x)).toNat))), (5, .inl ((6 * f) + x)), (0, .inr (.inr (.inl (some (34, 0))))), (1, .inl f), (2, .inl x), (3, .inl y), (4, .inl b)]) (st' := [.inl 2, .inl 1, .inr (.inr (.inl (some (34, 0))))]) (m' := m14) (o := none) rfl trivial ?_
              refine ww_call (vs := [.inr (.inr (.inl (some (34, 0)))), .inl 1, .inl 2]) (r := []) (p := 0 < 1) rfl rfl rfl rfl (show 0 < 1 from by omega) (zs196 (c := c) (by omega) 1 2 hGm14 (by omega)) ?_
              rintro _ _ m30 ⟨r28, rfl, rfl, hGm30, hEm30, hr29⟩
              have hFm30 : zfr (fun k i j => (k = 34 ∧ j = 0)) m0 m30 := zfr_tr hFm14 hEm30 (fun k i j z => z)
              show wW (zK sc) zM198 110 [(6, .inl (m14.1 68 0 ((7 * ((6 * f) + x)).toNat))), (5, .inl ((6 * f) + x)), (0, .inr (.inr (.inl (some (34, 0))))), (1, .inl f), (2, .inl x), (3, .inl y), (4, .inl b)] [.inl r28] _ _ _
              refine ww_if (t := 115) rfl rfl (by omega) (fun (h31 : r28 = 0) => ?_) (fun (h31 : ¬ (r28 = 0)) => ?_)
              · show wW (zK sc) zM198 115 [(6, .inl (m14.1 68 0 ((7 * ((6 * f) + x)).toNat))), (5, .inl ((6 * f) + x)), (0, .inr (.inr (.inl (some (34, 0))))), (1, .inl f), (2, .inl x), (3, .inl y), (4, .inl b)] [] _ _ _
                refine ww_go 1 (pc' := 116) (L' := [(6, .inl (m14.1 68 0 ((7 * ((6 * f) + x)).toNat))), (5, .inl ((6 * f) + x)), (0, .inr (.inr (.inl (some (34, 0))))), (1, .inl f), (2, .inl x), (3, .inl y), (4, .inl b)]) (st' := [.inl y]) (m' := m30) (o := none) rfl trivial ?_
                refine ww_if (t := 124) rfl rfl (by omega) (fun (h32 : 0 ≤ y) => ?_) (fun (h32 : ¬ (0 ≤ y)) => ?_)
                · show wW (zK sc) zM198 124 [(6, .inl (m14.1 68 0 ((7 * ((6 * f) + x)).toNat))), (5, .inl ((6 * f) + x)), (0, .inr (.inr (.inl (some (34, 0))))), (1, .inl f), (2, .inl x), (3, .inl y), (4, .inl b)] [] _ _ _
                  refine ww_go 1 (pc' := 126) (L' := [(6, .inl (m14.1 68 0 ((7 * ((6 * f) + x)).toNat))), (5, .inl ((6 * f) + x)), (0, .inr (.inr (.inl (some (34, 0))))), (1, .inl f), (2, .inl x), (3, .inl y), (4, .inl b)]) (st' := [.inl b]) (m' := m30) (o := none) rfl trivial ?_
                  refine ww_if (t := 144) rfl rfl (by omega) (fun (h33 : b = 0) => ?_) (fun (h33 : ¬ (b = 0)) => absurd (show b = 0 from by omega) h33)
                  show wW (zK sc) zM198 144 [(6, .inl (m14.1 68 0 ((7 * ((6 * f) + x)).toNat))), (5, .inl ((6 * f) + x)), (0, .inr (.inr (.inl (some (34, 0))))), (1, .inl f), (2, .inl x), (3, .inl y), (4, .inl b)] [] _ _ _
                  have b34 := zRN hGm30 ((((7 * ((6 * f) + x)) + 1) + y).toNat)
                  refine ww_go 10 (pc' := 158) (L' := [(6, .inl (m14.1 68 0 ((7 * ((6 * f) + x)).toNat))), (5, .inl ((6 * f) + x)), (0, .inr (.inr (.inl (some (34, 0))))), (1, .inl f), (2, .inl x), (3, .inl y), (4, .inl b)]) (st' := [.inl (m30.1 68 0 ((((7 * ((6 * f) + x)) + 1) + y).toNat))]) (m' := m30) (o := some ((0 < 1) ∧ (0 < 1 ∧ 0 ≤ ((7 * ((6 * f) + x)) + 1) + y ∧ ((7 * ((6 * f) + x)) + 1) + y < ((84 : Nat) : Int)))) rfl (show (0 < 1) ∧ (0 < 1 ∧ 0 ≤ ((7 * ((6 * f) + x)) + 1) + y ∧ ((7 * ((6 * f) + x)) + 1) + y < ((84 : Nat) : Int)) from by omega) ?_
                  exact ww_rI rfl rfl ⟨_, rfl, rfl, zB_mono hGm30 (by omega), hFm30, by trivial⟩
                · show wW (zK sc) zM198 119 [(6, .inl (m14.1 68 0 ((7 * ((6 * f) + x)).toNat))), (5, .inl ((6 * f) + x)), (0, .inr (.inr (.inl (some (34, 0))))), (1, .inl f), (2, .inl x), (3, .inl y), (4, .inl b)] [] _ _ _
                  refine ww_go 2 (pc' := 158) (L' := [(6, .inl (m14.1 68 0 ((7 * ((6 * f) + x)).toNat))), (5, .inl ((6 * f) + x)), (0, .inr (.inr (.inl (some (34, 0))))), (1, .inl f), (2, .inl x), (3, .inl y), (4, .inl b)]) (st' := [.inl (m14.1 68 0 ((7 * ((6 * f) + x)).toNat))]) (m' := m30) (o := none) rfl trivial ?_
                  exact ww_rI rfl rfl ⟨_, rfl, rfl, zB_mono hGm30 (by omega), hFm30, by trivial⟩
              · show wW (zK sc) zM198 113 [(6, .inl (m14.1 68 0 ((7 * ((6 * f) + x)).toNat))), (5, .inl ((6 * f) + x)), (0, .inr (.inr (.inl (some (34, 0))))), (1, .inl f), (2, .inl x), (3, .inl y), (4, .inl b)] [] _ _ _
                refine ww_go 1 (pc' := 114) (L' := [(6, .inl (m14.1 68 0 ((7 * ((6 * f) + x)).toNat))), (5, .inl ((6 * f) + x)), (0, .inr (.inr (.inl (some (34, 0))))), (1, .inl f), (2, .inl x), (3, .inl y), (4, .inl b)]) (st' := [.inl 0]) (m' := m30) (o := none) rfl trivial ?_
                exact ww_rI rfl rfl ⟨_, rfl, rfl, zB_mono hGm30 (by omega), hFm30, by trivial⟩
          · show wW (zK sc) zM198 66 [(5, .inl ((6 * f) + x)), (0, .inr (.inr (.inl (some (34, 0))))), (1, .inl f), (2, .inl x), (3, .inl y), (4, .inl b)] [] _ _ _
            have b35 : 0 ≤ m14.1 69 0 (((6 * f) + x).toNat) ∧ m14.1 69 0 (((6 * f) + x).toNat) ≤ 96 := hGm14.1 69 _ rfl _ _
            refine ww_go 12 (pc' := 95) (L' := [(6, .inl (m14.1 69 0 (((6 * f) + x).toNat))), (5, .inl ((6 * f) + x)), (0, .inr (.inr (.inl (some (34, 0))))), (1, .inl f), (2, .inl x), (3, .inl y), (4, .inl b)]) (st' := [.inl ((m14.1 69 0 (((6 * f) + x).toNat)) - 1), .inl ((-1)), .inl y, .inr (.inr (.inl (some (34, 0))))]) (m' := m14) (o := some ((0 < 1) ∧ (0 < 1 ∧ 0 ≤ (6 * f) + x ∧ (6 * f) + x < ((12 : Nat) : Int)))) rfl (show (0 < 1) ∧ (0 < 1 ∧ 0 ≤ (6 * f) + x ∧ (6 * f) + x < ((12 : Nat) : Int)) from by omega) ?_
            refine ww_call (vs := [.inl y, .inl ((-1)), .inl ((m14.1 69 0 (((6 * f) + x).toNat)) - 1)]) (r := [.inr (.inr (.inl (some (34, 0))))]) (p := True) rfl rfl rfl rfl trivial (zs207 y ((-1)) ((m14.1 69 0 (((6 * f) + x).toNat)) - 1) (by omega)) ?_
            rintro _ _ _ ⟨r36, rfl, rfl, rfl, hr37⟩
            show wW (zK sc) zM198 98 [(6, .inl (m14.1 69 0 (((6 * f) + x).toNat))), (5, .inl ((6 * f) + x)), (0, .inr (.inr (.inl (some (34, 0))))), (1, .inl f), (2, .inl x), (3, .inl y), (4, .inl b)] [.inl r36, .inr (.inr (.inl (some (34, 0))))] _ _ _
            refine ww_if (t := 105) rfl rfl (by omega) (fun (h38 : r36 ≠ 0) => ?_) (fun (h38 : ¬ (r36 ≠ 0)) => ?_)
            · show wW (zK sc) zM198 105 [(6, .inl (m14.1 69 0 (((6 * f) + x).toNat))), (5, .inl ((6 * f) + x)), (0, .inr (.inr (.inl (some (34, 0))))), (1, .inl f), (2, .inl x), (3, .inl y), (4, .inl b)] [.inr (.inr (.inl (some (34, 0))))] _ _ _
              refine ww_go 2 (pc' := 107) (L' := [(6, .inl (m14.1 69 0 (((6 * f) + x).toNat))), (5, .inl ((6 * f) + x)), (0, .inr (.inr (.inl (some (34, 0))))), (1, .inl f), (2, .inl x), (3, .inl y), (4, .inl b)]) (st' := [.inl 2, .inl 0, .inr (.inr (.inl (some (34, 0))))]) (m' := m14) (o := none) rfl trivial ?_
              refine ww_call (vs := [.inr (.inr (.inl (some (34, 0)))), .inl 0, .inl 2]) (r := []) (p := 0 < 1) rfl rfl rfl rfl (show 0 < 1 from by omega) (zs196 (c := c) (by omega) 0 2 hGm14 (by omega)) ?_
              rintro _ _ m41 ⟨r39, rfl, rfl, hGm41, hEm41, hr40⟩
              have hFm41 : zfr (fun k i j => (k = 34 ∧ j = 0)) m0 m41 := zfr_tr hFm14 hEm41 (fun k i j z => z)
              show wW (zK sc) zM198 110 [(6, .inl (m14.1 69 0 (((6 * f) + x).toNat))), (5, .inl ((6 * f) + x)), (0, .inr (.inr (.inl (some (34, 0))))), (1, .inl f), (2, .inl x), (3, .inl y), (4, .inl b)] [.inl r39] _ _ _
              refine ww_if (t := 115) rfl rfl (by omega) (fun (h42 : r39 = 0) => ?_) (fun (h42 : ¬ (r39 = 0)) => ?_)
              · show wW (zK sc) zM198 115 [(6, .inl (m14.1 69 0 (((6 * f) + x).toNat))), (5, .inl ((6 * f) + x)), (0, .inr (.inr (.inl (some (34, 0))))), (1, .inl f), (2, .inl x), (3, .inl y), (4, .inl b)] [] _ _ _
                refine ww_go 1 (pc' := 116) (L' := [(6, .inl (m14.1 69 0 (((6 * f) + x).toNat))), (5, .inl ((6 * f) + x)), (0, .inr (.inr (.inl (some (34, 0))))), (1, .inl f), (2, .inl x), (3, .inl y), (4, .inl b)]) (st' := [.inl y]) (m' := m41) (o := none) rfl trivial ?_
                refine ww_if (t := 124) rfl rfl (by omega) (fun (h43 : 0 ≤ y) => ?_) (fun (h43 : ¬ (0 ≤ y)) => ?_)
                · show wW (zK sc) zM198 124 [(6, .inl (m14.1 69 0 (((6 * f) + x).toNat))), (5, .inl ((6 * f) + x)), (0, .inr (.inr (.inl (some (34, 0))))), (1, .inl f), (2, .inl x), (3, .inl y), (4, .inl b)] [] _ _ _
                  refine ww_go 1 (pc' := 126) (L' := [(6, .inl (m14.1 69 0 (((6 * f) + x).toNat))), (5, .inl ((6 * f) + x)), (0, .inr (.inr (.inl (some (34, 0))))), (1, .inl f), (2, .inl x), (3, .inl y), (4, .inl b)]) (st' := [.inl b]) (m' := m41) (o := none) rfl trivial ?_
                  refine ww_if (t := 144) rfl rfl (by omega) (fun (h44 : b = 0) => absurd h44 (by omega)) (fun (h44 : ¬ (b = 0)) => ?_)
                  show wW (zK sc) zM198 129 [(6, .inl (m14.1 69 0 (((6 * f) + x).toNat))), (5, .inl ((6 * f) + x)), (0, .inr (.inr (.inl (some (34, 0))))), (1, .inl f), (2, .inl x), (3, .inl y), (4, .inl b)] [] _ _ _
                  have b45 : 0 ≤ m41.1 70 0 (((96 * ((6 * f) + x)) + y).toNat) ∧ m41.1 70 0 (((96 * ((6 * f) + x)) + y).toNat) ≤ 255 := hGm41.1 70 _ rfl _ _
                  refine ww_go 9 (pc' := 158) (L' := [(6, .inl (m14.1 69 0 (((6 * f) + x).toNat))), (5, .inl ((6 * f) + x)), (0, .inr (.inr (.inl (some (34, 0))))), (1, .inl f), (2, .inl x), (3, .inl y), (4, .inl b)]) (st' := [.inl (m41.1 70 0 (((96 * ((6 * f) + x)) + y).toNat))]) (m' := m41) (o := some ((0 < 1) ∧ (0 < 1 ∧ 0 ≤ (96 * ((6 * f) + x)) + y ∧ (96 * ((6 * f) + x)) + y < ((1152 : Nat) : Int)))) rfl (show (0 < 1) ∧ (0 < 1 ∧ 0 ≤ (96 * ((6 * f) + x)) + y ∧ (96 * ((6 * f) + x)) + y < ((1152 : Nat) : Int)) from by omega) ?_
                  exact ww_rI rfl rfl ⟨_, rfl, rfl, zB_mono hGm41 (by omega), hFm41, by trivial⟩
                · show wW (zK sc) zM198 119 [(6, .inl (m14.1 69 0 (((6 * f) + x).toNat))), (5, .inl ((6 * f) + x)), (0, .inr (.inr (.inl (some (34, 0))))), (1, .inl f), (2, .inl x), (3, .inl y), (4, .inl b)] [] _ _ _
                  refine ww_go 2 (pc' := 158) (L' := [(6, .inl (m14.1 69 0 (((6 * f) + x).toNat))), (5, .inl ((6 * f) + x)), (0, .inr (.inr (.inl (some (34, 0))))), (1, .inl f), (2, .inl x), (3, .inl y), (4, .inl b)]) (st' := [.inl (m14.1 69 0 (((6 * f) + x).toNat))]) (m' := m41) (o := none) rfl trivial ?_
                  exact ww_rI rfl rfl ⟨_, rfl, rfl, zB_mono hGm41 (by omega), hFm41, by trivial⟩
              · show wW (zK sc) zM198 113 [(6, .inl (m14.1 69 0 (((6 * f) + x).toNat))), (5, .inl ((6 * f) + x)), (0, .inr (.inr (.inl (some (34, 0))))), (1, .inl f), (2, .inl x), (3, .inl y), (4, .inl b)] [] _ _ _
                refine ww_go 1 (pc' := 114) (L' := [(6, .inl (m14.1 69 0 (((6 * f) + x).toNat))), (5, .inl ((6 * f) + x)), (0, .inr (.inr (.inl (some (34, 0))))), (1, .inl f), (2, .inl x), (3, .inl y), (4, .inl b)]) (st' := [.inl 0]) (m' := m41) (o := none) rfl trivial ?_
                exact ww_rI rfl rfl ⟨_, rfl, rfl, zB_mono hGm41 (by omega), hFm41, by trivial⟩
            · show wW (zK sc) zM198 101 [(6, .inl (m14.1 69 0 (((6 * f) + x).toNat))), (5, .inl ((6 * f) + x)), (0, .inr (.inr (.inl (some (34, 0))))), (1, .inl f), (2, .inl x), (3, .inl y), (4, .inl b)] [.inr (.inr (.inl (some (34, 0))))] _ _ _
              refine ww_go 3 (pc' := 107) (L' := [(6, .inl (m14.1 69 0 (((6 * f) + x).toNat))), (5, .inl ((6 * f) + x)), (0, .inr (.inr (.inl (some (34, 0))))), (1, .inl f), (2, .inl x), (3, .inl y), (4, .inl b)]) (st' := [.inl 2, .inl 1, .inr (.inr (.inl (some (34, 0))))]) (m' := m14) (o := none) rfl trivial ?_
              refine ww_call (vs := [.inr (.inr (.inl (some (34, 0)))), .inl 1, .inl 2]) (r := []) (p := 0 < 1) rfl rfl rfl rfl (show 0 < 1 from by omega) (zs196 (c := c) (by omega) 1 2 hGm14 (by omega)) ?_
              rintro _ _ m48 ⟨r46, rfl, rfl, hGm48, hEm48, hr47⟩
              have hFm48 : zfr (fun k i j => (k = 34 ∧ j = 0)) m0 m48 := zfr_tr hFm14 hEm48 (fun k i j z => z)
              show wW (zK sc) zM198 110 [(6, .inl (m14.1 69 0 (((6 * f) + x).toNat))), (5, .inl ((6 * f) + x)), (0, .inr (.inr (.inl (some (34, 0))))), (1, .inl f), (2, .inl x), (3, .inl y), (4, .inl b)] [.inl r46] _ _ _
              refine ww_if (t := 115) rfl rfl (by omega) (fun (h49 : r46 = 0) => ?_) (fun (h49 : ¬ (r46 = 0)) => ?_)
              · show wW (zK sc) zM198 115 [(6, .inl (m14.1 69 0 (((6 * f) + x).toNat))), (5, .inl ((6 * f) + x)), (0, .inr (.inr (.inl (some (34, 0))))), (1, .inl f), (2, .inl x), (3, .inl y), (4, .inl b)] [] _ _ _
                refine ww_go 1 (pc' := 116) (L' := [(6, .inl (m14.1 69 0 (((6 * f) + x).toNat))), (5, .inl ((6 * f) + x)), (0, .inr (.inr (.inl (some (34, 0))))), (1, .inl f), (2, .inl x), (3, .inl y), (4, .inl b)]) (st' := [.inl y]) (m' := m48) (o := none) rfl trivial ?_
                refine ww_if (t := 124) rfl rfl (by omega) (fun (h50 : 0 ≤ y) => ?_) (fun (h50 : ¬ (0 ≤ y)) => ?_)
                · show wW (zK sc) zM198 124 [(6, .inl (m14.1 69 0 (((6 * f) + x).toNat))), (5, .inl ((6 * f) + x)), (0, .inr (.inr (.inl (some (34, 0))))), (1, .inl f), (2, .inl x), (3, .inl y), (4, .inl b)] [] _ _ _
                  refine ww_go 1 (pc' := 126) (L' := [(6, .inl (m14.1 69 0 (((6 * f) + x).toNat))), (5, .inl ((6 * f) + x)), (0, .inr (.inr (.inl (some (34, 0))))), (1, .inl f), (2, .inl x), (3, .inl y), (4, .inl b)]) (st' := [.inl b]) (m' := m48) (o := none) rfl trivial ?_
                  refine ww_if (t := 144) rfl rfl (by omega) (fun (h51 : b = 0) => absurd h51 (by omega)) (fun (h51 : ¬ (b = 0)) => ?_)
                  show wW (zK sc) zM198 129 [(6, .inl (m14.1 69 0 (((6 * f) + x).toNat))), (5, .inl ((6 * f) + x)), (0, .inr (.inr (.inl (some (34, 0))))), (1, .inl f), (2, .inl x), (3, .inl y), (4, .inl b)] [] _ _ _
                  have b52 : 0 ≤ m48.1 70 0 (((96 * ((6 * f) + x)) + y).toNat) ∧ m48.1 70 0 (((96 * ((6 * f) + x)) + y).toNat) ≤ 255 := hGm48.1 70 _ rfl _ _
                  refine ww_go 9 (pc' := 158) (L' := [(6, .inl (m14.1 69 0 (((6 * f) + x).toNat))), (5, .inl ((6 * f) + x)), (0, .inr (.inr (.inl (some (34, 0))))), (1, .inl f), (2, .inl x), (3, .inl y), (4, .inl b)]) (st' := [.inl (m48.1 70 0 (((96 * ((6 * f) + x)) + y).toNat))]) (m' := m48) (o := some ((0 < 1) ∧ (0 < 1 ∧ 0 ≤ (96 * ((6 * f) + x)) + y ∧ (96 * ((6 * f) + x)) + y < ((1152 : Nat) : Int)))) rfl (show (0 < 1) ∧ (0 < 1 ∧ 0 ≤ (96 * ((6 * f) + x)) + y ∧ (96 * ((6 * f) + x)) + y < ((1152 : Nat) : Int)) from by omega) ?_
                  exact ww_rI rfl rfl ⟨_, rfl, rfl, zB_mono hGm48 (by omega), hFm48, by trivial⟩
                · show wW (zK sc) zM198 119 [(6, .inl (m14.1 69 0 (((6 * f) + x).toNat))), (5, .inl ((6 * f) + x)), (0, .inr (.inr (.inl (some (34, 0))))), (1, .inl f), (2, .inl x), (3, .inl y), (4, .inl b)] [] _ _ _
                  refine ww_go 2 (pc' := 158) (L' := [(6, .inl (m14.1 69 0 (((6 * f) + x).toNat))), (5, .inl ((6 * f) + x)), (0, .inr (.inr (.inl (some (34, 0))))), (1, .inl f), (2, .inl x), (3, .inl y), (4, .inl b)]) (st' := [.inl (m14.1 69 0 (((6 * f) + x).toNat))]) (m' := m48) (o := none) rfl trivial ?_
                  exact ww_rI rfl rfl ⟨_, rfl, rfl, zB_mono hGm48 (by omega), hFm48, by trivial⟩
              · show wW (zK sc) zM198 113 [(6, .inl (m14.1 69 0 (((6 * f) + x).toNat))), (5, .inl ((6 * f) + x)), (0, .inr (.inr (.inl (some (34, 0))))), (1, .inl f), (2, .inl x), (3, .inl y), (4, .inl b)] [] _ _ _
                refine ww_go 1 (pc' := 114) (L' := [(6, .inl (m14.1 69 0 (((6 * f) + x).toNat))), (5, .inl ((6 * f) + x)), (0, .inr (.inr (.inl (some (34, 0))))), (1, .inl f), (2, .inl x), (3, .inl y), (4, .inl b)]) (st' := [.inl 0]) (m' := m48) (o := none) rfl trivial ?_
                exact ww_rI rfl rfl ⟨_, rfl, rfl, zB_mono hGm48 (by omega), hFm48, by trivial⟩
        · show wW (zK sc) zM198 51 [(0, .inr (.inr (.inl (some (34, 0))))), (1, .inl f), (2, .inl x), (3, .inl y), (4, .inl b)] [] _ _ _
          refine ww_go 1 (pc' := 52) (L' := [(0, .inr (.inr (.inl (some (34, 0))))), (1, .inl f), (2, .inl x), (3, .inl y), (4, .inl b)]) (st' := [.inl 0]) (m' := m14) (o := none) rfl trivial ?_
          exact ww_rI rfl rfl ⟨_, rfl, rfl, zB_mono hGm14 (by omega), hFm14, by trivial⟩
      · show wW (zK sc) zM198 39 [(0, .inr (.inr (.inl (some (34, 0))))), (1, .inl f), (2, .inl x), (3, .inl y), (4, .inl b)] [.inr (.inr (.inl (some (34, 0))))] _ _ _
        refine ww_go 3 (pc' := 45) (L' := [(0, .inr (.inr (.inl (some (34, 0))))), (1, .inl f), (2, .inl x), (3, .inl y), (4, .inl b)]) (st' := [.inl 2, .inl 1, .inr (.inr (.inl (some (34, 0))))]) (m' := m6) (o := none) rfl trivial ?_
        refine ww_call (vs := [.inr (.inr (.inl (some (34, 0)))), .inl 1, .inl 2]) (r := []) (p := 0 < 1) rfl rfl rfl rfl (show 0 < 1 from by omega) (zs196 (c := c) (by omega) 1 2 hGm6 (by omega)) ?_
        rintro _ _ m55 ⟨r53, rfl, rfl, hGm55, hEm55, hr54⟩
        have hFm55 : zfr (fun k i j => (k = 34 ∧ j = 0)) m0 m55 := zfr_tr hFm6 hEm55 (fun k i j z => z)
        show wW (zK sc) zM198 48 [(0, .inr (.inr (.inl (some (34, 0))))), (1, .inl f), (2, .inl x), (3, .inl y), (4, .inl b)] [.inl r53] _ _ _
        refine ww_if (t := 53) rfl rfl (by omega) (fun (h56 : r53 = 0) => ?_) (fun (h56 : ¬ (r53 = 0)) => ?_)
        · show wW (zK sc) zM198 53 [(0, .inr (.inr (.inl (some (34, 0))))), (1, .inl f), (2, .inl x), (3, .inl y), (4, .inl b)] [] _ _ _
          refine ww_go 7 (pc' := 63) (L' := [(5, .inl ((6 * f) + x)), (0, .inr (.inr (.inl (some (34, 0))))), (1, .inl f), (2, .inl x), (3, .inl y), (4, .inl b)]) (st' := [.inl b]) (m' := m55) (o := none) rfl trivial ?_
          refine ww_if (t := 76) rfl rfl (by omega) (fun (h57 : b = 0) => ?_) (fun (h57 : ¬ (b = 0)) => ?_)
          · show wW (zK sc) zM198 76 [(5, .inl ((6 * f) + x)), (0, .inr (.inr (.inl (some (34, 0))))), (1, .inl f), (2, .inl x), (3, .inl y), (4, .inl b)] [] _ _ _
            have b58 := zRN hGm55 ((7 * ((6 * f) + x)).toNat)
            refine ww_go 13 (pc' := 95) (L' := [(6, .inl (m55.1 68 0 ((7 * ((6 * f) + x)).toNat))), (5, .inl ((6 * f) + x)), (0, .inr (.inr (.inl (some (34, 0))))), (1, .inl f), (2, .inl x), (3, .inl y), (4, .inl b)]) (st' := [.inl ((m55.1 68 0 ((7 * ((6 * f) + x)).toNat)) - 1), .inl ((-1)), .inl y, .inr (.inr (.inl (some (34, 0))))]) (m' := m55) (o := some ((0 < 1) ∧ (0 < 1 ∧ 0 ≤ 7 * ((6 * f) + x) ∧ 7 * ((6 * f) + x) < ((84 : Nat) : Int)))) rfl (show (0 < 1) ∧ (0 < 1 ∧ 0 ≤ 7 * ((6 * f) + x) ∧ 7 * ((6 * f) + x) < ((84 : Nat) : Int)) from by omega) ?_
            refine ww_call (vs := [.inl y, .inl ((-1)), .inl ((m55.1 68 0 ((7 * ((6 * f) + x)).toNat)) - 1)]) (r := [.inr (.inr (.inl (some (34, 0))))]) (p := True) rfl rfl rfl rfl trivial (zs207 y ((-1)) ((m55.1 68 0 ((7 * ((6 * f) + x)).toNat)) - 1) (by omega)) ?_
            rintro _ _ _ ⟨r59, rfl, rfl, rfl, hr60⟩
            show wW (zK sc) zM198 98 [(6, .inl (m55.1 68 0 ((7 * ((6 * f) + x)).toNat))), (5, .inl ((6 * f) + x)), (0, .inr (.inr (.inl (some (34, 0))))), (1, .inl f), (2, .inl x), (3, .inl y), (4, .inl b)] [.inl r59, .inr (.inr (.inl (some (34, 0))))] _ _ _
            refine ww_if (t := 105) rfl rfl (by omega) (fun (h61 : r59 ≠ 0) => ?_) (fun (h61 : ¬ (r59 ≠ 0)) => ?_)
            · show wW (zK sc) zM198 105 [(6, .inl (m55.1 68 0 ((7 * ((6 * f) + x)).toNat))), (5, .inl ((6 * f) + x)), (0, .inr (.inr (.inl (some (34, 0))))), (1, .inl f), (2, .inl x), (3, .inl y), (4, .inl b)] [.inr (.inr (.inl (some (34, 0))))] _ _ _
              refine ww_go 2 (pc' := 107) (L' := [(6, .inl (m55.1 68 0 ((7 * ((6 * f) + x)).toNat))), (5, .inl ((6 * f) + x)), (0, .inr (.inr (.inl (some (34, 0))))), (1, .inl f), (2, .inl x), (3, .inl y), (4, .inl b)]) (st' := [.inl 2, .inl 0, .inr (.inr (.inl (some (34, 0))))]) (m' := m55) (o := none) rfl trivial ?_
              refine ww_call (vs := [.inr (.inr (.inl (some (34, 0)))), .inl 0, .inl 2]) (r := []) (p := 0 < 1) rfl rfl rfl rfl (show 0 < 1 from by omega) (zs196 (c := c) (by omega) 0 2 hGm55 (by omega)) ?_
              rintro _ _ m64 ⟨r62, rfl, rfl, hGm64, hEm64, hr63⟩
              have hFm64 : zfr (fun k i j => (k = 34 ∧ j = 0)) m0 m64 := zfr_tr hFm55 hEm64 (fun k i j z => z)
              show wW (zK sc) zM198 110 [(6, .inl (m55.1 68 0 ((7 * ((6 * f) + x)).toNat))), (5, .inl ((6 * f) + x)), (0, .inr (.inr (.inl (some (34, 0))))), (1, .inl f), (2, .inl x), (3, .inl y), (4, .inl b)] [.inl r62] _ _ _
              refine ww_if (t := 115) rfl rfl (by omega) (fun (h65 : r62 = 0) => ?_) (fun (h65 : ¬ (r62 = 0)) => ?_)
              · show wW (zK sc) zM198 115 [(6, .inl (m55.1 68 0 ((7 * ((6 * f) + x)).toNat))), (5, .inl ((6 * f) + x)), (0, .inr (.inr (.inl (some (34, 0))))), (1, .inl f), (2, .inl x), (3, .inl y), (4, .inl b)] [] _ _ _
                refine ww_go 1 (pc' := 116) (L' := [(6, .inl (m55.1 68 0 ((7 * ((6 * f) + x)).toNat))), (5, .inl ((6 * f) + x)), (0, .inr (.inr (.inl (some (34, 0))))), (1, .inl f), (2, .inl x), (3, .inl y), (4, .inl b)]) (st' := [.inl y]) (m' := m64) (o := none) rfl trivial ?_
                refine ww_if (t := 124) rfl rfl (by omega) (fun (h66 : 0 ≤ y) => ?_) (fun (h66 : ¬ (0 ≤ y)) => ?_)
                · show wW (zK sc) zM198 124 [(6, .inl (m55.1 68 0 ((7 * ((6 * f) + x)).toNat))), (5, .inl ((6 * f) + x)), (0, .inr (.inr (.inl (some (34, 0))))), (1, .inl f), (2, .inl x), (3, .inl y), (4, .inl b)] [] _ _ _
                  refine ww_go 1 (pc' := 126) (L' := [(6, .inl (m55.1 68 0 ((7 * ((6 * f) + x)).toNat))), (5, .inl ((6 * f) + x)), (0, .inr (.inr (.inl (some (34, 0))))), (1, .inl f), (2, .inl x), (3, .inl y), (4, .inl b)]) (st' := [.inl b]) (m' := m64) (o := none) rfl trivial ?_
                  refine ww_if (t := 144) rfl rfl (by omega) (fun (h67 : b = 0) => ?_) (fun (h67 : ¬ (b = 0)) => absurd (show b = 0 from by omega) h67)
                  show wW (zK sc) zM198 144 [(6, .inl (m55.1 68 0 ((7 * ((6 * f) + x)).toNat))), (5, .inl ((6 * f) + x)), (0, .inr (.inr (.inl (some (34, 0))))), (1, .inl f), (2, .inl x), (3, .inl y), (4, .inl b)] [] _ _ _
                  have b68 := zRN hGm64 ((((7 * ((6 * f) + x)) + 1) + y).toNat)
                  refine ww_go 10 (pc' := 158) (L' := [(6, .inl (m55.1 68 0 ((7 * ((6 * f) + x)).toNat))), (5, .inl ((6 * f) + x)), (0, .inr (.inr (.inl (some (34, 0))))), (1, .inl f), (2, .inl x), (3, .inl y), (4, .inl b)]) (st' := [.inl (m64.1 68 0 ((((7 * ((6 * f) + x)) + 1) + y).toNat))]) (m' := m64) (o := some ((0 < 1) ∧ (0 < 1 ∧ 0 ≤ ((7 * ((6 * f) + x)) + 1) + y ∧ ((7 * ((6 * f) + x)) + 1) + y < ((84 : Nat) : Int)))) rfl (show (0 < 1) ∧ (0 < 1 ∧ 0 ≤ ((7 * ((6 * f) + x)) + 1) + y ∧ ((7 * ((6 * f) + x)) + 1) + y < ((84 : Nat) : Int)) from by omega) ?_
                  exact ww_rI rfl rfl ⟨_, rfl, rfl, zB_mono hGm64 (by omega), hFm64, by trivial⟩
                · show wW (zK sc) zM198 119 [(6, .inl (m55.1 68 0 ((7 * ((6 * f) + x)).toNat))), (5, .inl ((6 * f) + x)), (0, .inr (.inr (.inl (some (34, 0))))), (1, .inl f), (2, .inl x), (3, .inl y), (4, .inl b)] [] _ _ _
                  refine ww_go 2 (pc' := 158) (L' := [(6, .inl (m55.1 68 0 ((7 * ((6 * f) + x)).toNat))), (5, .inl ((6 * f) + x)), (0, .inr (.inr (.inl (some (34, 0))))), (1, .inl f), (2, .inl x), (3, .inl y), (4, .inl b)]) (st' := [.inl (m55.1 68 0 ((7 * ((6 * f) + x)).toNat))]) (m' := m64) (o := none) rfl trivial ?_
                  exact ww_rI rfl rfl ⟨_, rfl, rfl, zB_mono hGm64 (by omega), hFm64, by trivial⟩
              · show wW (zK sc) zM198 113 [(6, .inl (m55.1 68 0 ((7 * ((6 * f) + x)).toNat))), (5, .inl ((6 * f) + x)), (0, .inr (.inr (.inl (some (34, 0))))), (1, .inl f), (2, .inl x), (3, .inl y), (4, .inl b)] [] _ _ _
                refine ww_go 1 (pc' := 114) (L' := [(6, .inl (m55.1 68 0 ((7 * ((6 * f) + x)).toNat))), (5, .inl ((6 * f) + x)), (0, .inr (.inr (.inl (some (34, 0))))), (1, .inl f), (2, .inl x), (3, .inl y), (4, .inl b)]) (st' := [.inl 0]) (m' := m64) (o := none) rfl trivial ?_
                exact ww_rI rfl rfl ⟨_, rfl, rfl, zB_mono hGm64 (by omega), hFm64, by trivial⟩
            · show wW (zK sc) zM198 101 [(6, .inl (m55.1 68 0 ((7 * ((6 * f) + x)).toNat))), (5, .inl ((6 * f) + x)), (0, .inr (.inr (.inl (some (34, 0))))), (1, .inl f), (2, .inl x), (3, .inl y), (4, .inl b)] [.inr (.inr (.inl (some (34, 0))))] _ _ _
              refine ww_go 3 (pc' := 107) (L' := [(6, .inl (m55.1 68 0 ((7 * ((6 * f) + x)).toNat))), (5, .inl ((6 * f) + x)), (0, .inr (.inr (.inl (some (34, 0))))), (1, .inl f), (2, .inl x), (3, .inl y), (4, .inl b)]) (st' := [.inl 2, .inl 1, .inr (.inr (.inl (some (34, 0))))]) (m' := m55) (o := none) rfl trivial ?_
              refine ww_call (vs := [.inr (.inr (.inl (some (34, 0)))), .inl 1, .inl 2]) (r := []) (p := 0 < 1) rfl rfl rfl rfl (show 0 < 1 from by omega) (zs196 (c := c) (by omega) 1 2 hGm55 (by omega)) ?_
              rintro _ _ m71 ⟨r69, rfl, rfl, hGm71, hEm71, hr70⟩
              have hFm71 : zfr (fun k i j => (k = 34 ∧ j = 0)) m0 m71 := zfr_tr hFm55 hEm71 (fun k i j z => z)
              show wW (zK sc) zM198 110 [(6, .inl (m55.1 68 0 ((7 * ((6 * f) + x)).toNat))), (5, .inl ((6 * f) + x)), (0, .inr (.inr (.inl (some (34, 0))))), (1, .inl f), (2, .inl x), (3, .inl y), (4, .inl b)] [.inl r69] _ _ _
              refine ww_if (t := 115) rfl rfl (by omega) (fun (h72 : r69 = 0) => ?_) (fun (h72 : ¬ (r69 = 0)) => ?_)
              · show wW (zK sc) zM198 115 [(6, .inl (m55.1 68 0 ((7 * ((6 * f) + x)).toNat))), (5, .inl ((6 * f) + x)), (0, .inr (.inr (.inl (some (34, 0))))), (1, .inl f), (2, .inl x), (3, .inl y), (4, .inl b)] [] _ _ _
                refine ww_go 1 (pc' := 116) (L' := [(6, .inl (m55.1 68 0 ((7 * ((6 * f) + x)).toNat))), (5, .inl ((6 * f) + x)), (0, .inr (.inr (.inl (some (34, 0))))), (1, .inl f), (2, .inl x), (3, .inl y), (4, .inl b)]) (st' := [.inl y]) (m' := m71) (o := none) rfl trivial ?_
                refine ww_if (t := 124) rfl rfl (by omega) (fun (h73 : 0 ≤ y) => ?_) (fun (h73 : ¬ (0 ≤ y)) => ?_)
                · show wW (zK sc) zM198 124 [(6, .inl (m55.1 68 0 ((7 * ((6 * f) + x)).toNat))), (5, .inl ((6 * f) + x)), (0, .inr (.inr (.inl (some (34, 0))))), (1, .inl f), (2, .inl x), (3, .inl y), (4, .inl b)] [] _ _ _
                  refine ww_go 1 (pc' := 126) (L' := [(6, .inl (m55.1 68 0 ((7 * ((6 * f) + x)).toNat))), (5, .inl ((6 * f) + x)), (0, .inr (.inr (.inl (some (34, 0))))), (1, .inl f), (2, .inl x), (3, .inl y), (4, .inl b)]) (st' := [.inl b]) (m' := m71) (o := none) rfl trivial ?_
                  refine ww_if (t := 144) rfl rfl (by omega) (fun (h74 : b = 0) => ?_) (fun (h74 : ¬ (b = 0)) => absurd (show b = 0 from by omega) h74)
                  show wW (zK sc) zM198 144 [(6, .inl (m55.1 68 0 ((7 * ((6 * f) + x)).toNat))), (5, .inl ((6 * f) + x)), (0, .inr (.inr (.inl (some (34, 0))))), (1, .inl f), (2, .inl x), (3, .inl y), (4, .inl b)] [] _ _ _
                  have b75 := zRN hGm71 ((((7 * ((6 * f) + x)) + 1) + y).toNat)
                  refine ww_go 10 (pc' := 158) (L' := [(6, .inl (m55.1 68 0 ((7 * ((6 * f) + x)).toNat))), (5, .inl ((6 * f) + x)), (0, .inr (.inr (.inl (some (34, 0))))), (1, .inl f), (2, .inl x), (3, .inl y), (4, .inl b)]) (st' := [.inl (m71.1 68 0 ((((7 * ((6 * f) + x)) + 1) + y).toNat))]) (m' := m71) (o := some ((0 < 1) ∧ (0 < 1 ∧ 0 ≤ ((7 * ((6 * f) + x)) + 1) + y ∧ ((7 * ((6 * f) + x)) + 1) + y < ((84 : Nat) : Int)))) rfl (show (0 < 1) ∧ (0 < 1 ∧ 0 ≤ ((7 * ((6 * f) + x)) + 1) + y ∧ ((7 * ((6 * f) + x)) + 1) + y < ((84 : Nat) : Int)) from by omega) ?_
                  exact ww_rI rfl rfl ⟨_, rfl, rfl, zB_mono hGm71 (by omega), hFm71, by trivial⟩
                · show wW (zK sc) zM198 119 [(6, .inl (m55.1 68 0 ((7 * ((6 * f) + x)).toNat))), (5, .inl ((6 * f) + x)), (0, .inr (.inr (.inl (some (34, 0))))), (1, .inl f), (2, .inl x), (3, .inl y), (4, .inl b)] [] _ _ _
                  refine ww_go 2 (pc' := 158) (L' := [(6, .inl (m55.1 68 0 ((7 * ((6 * f) + x)).toNat))), (5, .inl ((6 * f) + x)), (0, .inr (.inr (.inl (some (34, 0))))), (1, .inl f), (2, .inl x), (3, .inl y), (4, .inl b)]) (st' := [.inl (m55.1 68 0 ((7 * ((6 * f) + x)).toNat))]) (m' := m71) (o := none) rfl trivial ?_
                  exact ww_rI rfl rfl ⟨_, rfl, rfl, zB_mono hGm71 (by omega), hFm71, by trivial⟩
              · show wW (zK sc) zM198 113 [(6, .inl (m55.1 68 0 ((7 * ((6 * f) + x)).toNat))), (5, .inl ((6 * f) + x)), (0, .inr (.inr (.inl (some (34, 0))))), (1, .inl f), (2, .inl x), (3, .inl y), (4, .inl b)] [] _ _ _
                refine ww_go 1 (pc' := 114) (L' := [(6, .inl (m55.1 68 0 ((7 * ((6 * f) + x)).toNat))), (5, .inl ((6 * f) + x)), (0, .inr (.inr (.inl (some (34, 0))))), (1, .inl f), (2, .inl x), (3, .inl y), (4, .inl b)]) (st' := [.inl 0]) (m' := m71) (o := none) rfl trivial ?_
                exact ww_rI rfl rfl ⟨_, rfl, rfl, zB_mono hGm71 (by omega), hFm71, by trivial⟩
          · show wW (zK sc) zM198 66 [(5, .inl ((6 * f) + x)), (0, .inr (.inr (.inl (some (34, 0))))), (1, .inl f), (2, .inl x), (3, .inl y), (4, .inl b)] [] _ _ _
            have b76 : 0 ≤ m55.1 69 0 (((6 * f) + x).toNat) ∧ m55.1 69 0 (((6 * f) + x).toNat) ≤ 96 := hGm55.1 69 _ rfl _ _
            refine ww_go 12 (pc' := 95) (L' := [(6, .inl (m55.1 69 0 (((6 * f) + x).toNat))), (5, .inl ((6 * f) + x)), (0, .inr (.inr (.inl (some (34, 0))))), (1, .inl f), (2, .inl x), (3, .inl y), (4, .inl b)]) (st' := [.inl ((m55.1 69 0 (((6 * f) + x).toNat)) - 1), .inl ((-1)), .inl y, .inr (.inr (.inl (some (34, 0))))]) (m' := m55) (o := some ((0 < 1) ∧ (0 < 1 ∧ 0 ≤ (6 * f) + x ∧ (6 * f) + x < ((12 : Nat) : Int)))) rfl (show (0 < 1) ∧ (0 < 1 ∧ 0 ≤ (6 * f) + x ∧ (6 * f) + x < ((12 : Nat) : Int)) from by omega) ?_
            refine ww_call (vs := [.inl y, .inl ((-1)), .inl ((m55.1 69 0 (((6 * f) + x).toNat)) - 1)]) (r := [.inr (.inr (.inl (some (34, 0))))]) (p := True) rfl rfl rfl rfl trivial (zs207 y ((-1)) ((m55.1 69 0 (((6 * f) + x).toNat)) - 1) (by omega)) ?_
            rintro _ _ _ ⟨r77, rfl, rfl, rfl, hr78⟩
            show wW (zK sc) zM198 98 [(6, .inl (m55.1 69 0 (((6 * f) + x).toNat))), (5, .inl ((6 * f) + x)), (0, .inr (.inr (.inl (some (34, 0))))), (1, .inl f), (2, .inl x), (3, .inl y), (4, .inl b)] [.inl r77, .inr (.inr (.inl (some (34, 0))))] _ _ _
            refine ww_if (t := 105) rfl rfl (by omega) (fun (h79 : r77 ≠ 0) => ?_) (fun (h79 : ¬ (r77 ≠ 0)) => ?_)
            · show wW (zK sc) zM198 105 [(6, .inl (m55.1 69 0 (((6 * f) + x).toNat))), (5, .inl ((6 * f) + x)), (0, .inr (.inr (.inl (some (34, 0))))), (1, .inl f), (2, .inl x), (3, .inl y), (4, .inl b)] [.inr (.inr (.inl (some (34, 0))))] _ _ _
              refine ww_go 2 (pc' := 107) (L' := [(6, .inl (m55.1 69 0 (((6 * f) + x).toNat))), (5, .inl ((6 * f) + x)), (0, .inr (.inr (.inl (some (34, 0))))), (1, .inl f), (2, .inl x), (3, .inl y), (4, .inl b)]) (st' := [.inl 2, .inl 0, .inr (.inr (.inl (some (34, 0))))]) (m' := m55) (o := none) rfl trivial ?_
              refine ww_call (vs := [.inr (.inr (.inl (some (34, 0)))), .inl 0, .inl 2]) (r := []) (p := 0 < 1) rfl rfl rfl rfl (show 0 < 1 from by omega) (zs196 (c := c) (by omega) 0 2 hGm55 (by omega)) ?_
              rintro _ _ m82 ⟨r80, rfl, rfl, hGm82, hEm82, hr81⟩
              have hFm82 : zfr (fun k i j => (k = 34 ∧ j = 0)) m0 m82 := zfr_tr hFm55 hEm82 (fun k i j z => z)
              show wW (zK sc) zM198 110 [(6, .inl (m55.1 69 0 (((6 * f) + x).toNat))), (5, .inl ((6 * f) + x)), (0, .inr (.inr (.inl (some (34, 0))))), (1, .inl f), (2, .inl x), (3, .inl y), (4, .inl b)] [.inl r80] _ _ _
              refine ww_if (t := 115) rfl rfl (by omega) (fun (h83 : r80 = 0) => ?_) (fun (h83 : ¬ (r80 = 0)) => ?_)
              · show wW (zK sc) zM198 115 [(6, .inl (m55.1 69 0 (((6 * f) + x).toNat))), (5, .inl ((6 * f) + x)), (0, .inr (.inr (.inl (some (34, 0))))), (1, .inl f), (2, .inl x), (3, .inl y), (4, .inl b)] [] _ _ _
                refine ww_go 1 (pc' := 116) (L' := [(6, .inl (m55.1 69 0 (((6 * f) + x).toNat))), (5, .inl ((6 * f) + x)), (0, .inr (.inr (.inl (some (34, 0))))), (1, .inl f), (2, .inl x), (3, .inl y), (4, .inl b)]) (st' := [.inl y]) (m' := m82) (o := none) rfl trivial ?_
                refine ww_if (t := 124) rfl rfl (by omega) (fun (h84 : 0 ≤ y) => ?_) (fun (h84 : ¬ (0 ≤ y)) => ?_)
                · show wW (zK sc) zM198 124 [(6, .inl (m55.1 69 0 (((6 * f) + x).toNat))), (5, .inl ((6 * f) + x)), (0, .inr (.inr (.inl (some (34, 0))))), (1, .inl f), (2, .inl x), (3, .inl y), (4, .inl b)] [] _ _ _
                  refine ww_go 1 (pc' := 126) (L' := [(6, .inl (m55.1 69 0 (((6 * f) + x).toNat))), (5, .inl ((6 * f) + x)), (0, .inr (.inr (.inl (some (34, 0))))), (1, .inl f), (2, .inl x), (3, .inl y), (4, .inl b)]) (st' := [.inl b]) (m' := m82) (o := none) rfl trivial ?_
                  refine ww_if (t := 144) rfl rfl (by omega) (fun (h85 : b = 0) => absurd h85 (by omega)) (fun (h85 : ¬ (b = 0)) => ?_)
                  show wW (zK sc) zM198 129 [(6, .inl (m55.1 69 0 (((6 * f) + x).toNat))), (5, .inl ((6 * f) + x)), (0, .inr (.inr (.inl (some (34, 0))))), (1, .inl f), (2, .inl x), (3, .inl y), (4, .inl b)] [] _ _ _
                  have b86 : 0 ≤ m82.1 70 0 (((96 * ((6 * f) + x)) + y).toNat) ∧ m82.1 70 0 (((96 * ((6 * f) + x)) + y).toNat) ≤ 255 := hGm82.1 70 _ rfl _ _
                  refine ww_go 9 (pc' := 158) (L' := [(6, .inl (m55.1 69 0 (((6 * f) + x).toNat))), (5, .inl ((6 * f) + x)), (0, .inr (.inr (.inl (some (34, 0))))), (1, .inl f), (2, .inl x), (3, .inl y), (4, .inl b)]) (st' := [.inl (m82.1 70 0 (((96 * ((6 * f) + x)) + y).toNat))]) (m' := m82) (o := some ((0 < 1) ∧ (0 < 1 ∧ 0 ≤ (96 * ((6 * f) + x)) + y ∧ (96 * ((6 * f) + x)) + y < ((1152 : Nat) : Int)))) rfl (show (0 < 1) ∧ (0 < 1 ∧ 0 ≤ (96 * ((6 * f) + x)) + y ∧ (96 * ((6 * f) + x)) + y < ((1152 : Nat) : Int)) from by omega) ?_
                  exact ww_rI rfl rfl ⟨_, rfl, rfl, zB_mono hGm82 (by omega), hFm82, by trivial⟩
                · show wW (zK sc) zM198 119 [(6, .inl (m55.1 69 0 (((6 * f) + x).toNat))), (5, .inl ((6 * f) + x)), (0, .inr (.inr (.inl (some (34, 0))))), (1, .inl f), (2, .inl x), (3, .inl y), (4, .inl b)] [] _ _ _
                  refine ww_go 2 (pc' := 158) (L' := [(6, .inl (m55.1 69 0 (((6 * f) + x).toNat))), (5, .inl ((6 * f) + x)), (0, .inr (.inr (.inl (some (34, 0))))), (1, .inl f), (2, .inl x), (3, .inl y), (4, .inl b)]) (st' := [.inl (m55.1 69 0 (((6 * f) + x).toNat))]) (m' := m82) (o := none) rfl trivial ?_
                  exact ww_rI rfl rfl ⟨_, rfl, rfl, zB_mono hGm82 (by omega), hFm82, by trivial⟩
              · show wW (zK sc) zM198 113 [(6, .inl (m55.1 69 0 (((6 * f) + x).toNat))), (5, .inl ((6 * f) + x)), (0, .inr (.inr (.inl (some (34, 0))))), (1, .inl f), (2, .inl x), (3, .inl y), (4, .inl b)] [] _ _ _
                refine ww_go 1 (pc' := 114) (L' := [(6, .inl (m55.1 69 0 (((6 * f) + x).toNat))), (5, .inl ((6 * f) + x)), (0, .inr (.inr (.inl (some (34, 0))))), (1, .inl f), (2, .inl x), (3, .inl y), (4, .inl b)]) (st' := [.inl 0]) (m' := m82) (o := none) rfl trivial ?_
                exact ww_rI rfl rfl ⟨_, rfl, rfl, zB_mono hGm82 (by omega), hFm82, by trivial⟩
            · show wW (zK sc) zM198 101 [(6, .inl (m55.1 69 0 (((6 * f) + x).toNat))), (5, .inl ((6 * f) + x)), (0, .inr (.inr (.inl (some (34, 0))))), (1, .inl f), (2, .inl x), (3, .inl y), (4, .inl b)] [.inr (.inr (.inl (some (34, 0))))] _ _ _
              refine ww_go 3 (pc' := 107) (L' := [(6, .inl (m55.1 69 0 (((6 * f) + x).toNat))), (5, .inl ((6 * f) + x)), (0, .inr (.inr (.inl (some (34, 0))))), (1, .inl f), (2, .inl x), (3, .inl y), (4, .inl b)]) (st' := [.inl 2, .inl 1, .inr (.inr (.inl (some (34, 0))))]) (m' := m55) (o := none) rfl trivial ?_
              refine ww_call (vs := [.inr (.inr (.inl (some (34, 0)))), .inl 1, .inl 2]) (r := []) (p := 0 < 1) rfl rfl rfl rfl (show 0 < 1 from by omega) (zs196 (c := c) (by omega) 1 2 hGm55 (by omega)) ?_
              rintro _ _ m89 ⟨r87, rfl, rfl, hGm89, hEm89, hr88⟩
              have hFm89 : zfr (fun k i j => (k = 34 ∧ j = 0)) m0 m89 := zfr_tr hFm55 hEm89 (fun k i j z => z)
              show wW (zK sc) zM198 110 [(6, .inl (m55.1 69 0 (((6 * f) + x).toNat))), (5, .inl ((6 * f) + x)), (0, .inr (.inr (.inl (some (34, 0))))), (1, .inl f), (2, .inl x), (3, .inl y), (4, .inl b)] [.inl r87] _ _ _
              refine ww_if (t := 115) rfl rfl (by omega) (fun (h90 : r87 = 0) => ?_) (fun (h90 : ¬ (r87 = 0)) => ?_)
              · show wW (zK sc) zM198 115 [(6, .inl (m55.1 69 0 (((6 * f) + x).toNat))), (5, .inl ((6 * f) + x)), (0, .inr (.inr (.inl (some (34, 0))))), (1, .inl f), (2, .inl x), (3, .inl y), (4, .inl b)] [] _ _ _
                refine ww_go 1 (pc' := 116) (L' := [(6, .inl (m55.1 69 0 (((6 * f) + x).toNat))), (5, .inl ((6 * f) + x)), (0, .inr (.inr (.inl (some (34, 0))))), (1, .inl f), (2, .inl x), (3, .inl y), (4, .inl b)]) (st' := [.inl y]) (m' := m89) (o := none) rfl trivial ?_
                refine ww_if (t := 124) rfl rfl (by omega) (fun (h91 : 0 ≤ y) => ?_) (fun (h91 : ¬ (0 ≤ y)) => ?_)
                · show wW (zK sc) zM198 124 [(6, .inl (m55.1 69 0 (((6 * f) + x).toNat))), (5, .inl ((6 * f) + x)), (0, .inr (.inr (.inl (some (34, 0))))), (1, .inl f), (2, .inl x), (3, .inl y), (4, .inl b)] [] _ _ _
                  refine ww_go 1 (pc' := 126) (L' := [(6, .inl (m55.1 69 0 (((6 * f) + x).toNat))), (5, .inl ((6 * f) + x)), (0, .inr (.inr (.inl (some (34, 0))))), (1, .inl f), (2, .inl x), (3, .inl y), (4, .inl b)]) (st' := [.inl b]) (m' := m89) (o := none) rfl trivial ?_
                  refine ww_if (t := 144) rfl rfl (by omega) (fun (h92 : b = 0) => absurd h92 (by omega)) (fun (h92 : ¬ (b = 0)) => ?_)
                  show wW (zK sc) zM198 129 [(6, .inl (m55.1 69 0 (((6 * f) + x).toNat))), (5, .inl ((6 * f) + x)), (0, .inr (.inr (.inl (some (34, 0))))), (1, .inl f), (2, .inl x), (3, .inl y), (4, .inl b)] [] _ _ _
                  have b93 : 0 ≤ m89.1 70 0 (((96 * ((6 * f) + x)) + y).toNat) ∧ m89.1 70 0 (((96 * ((6 * f) + x)) + y).toNat) ≤ 255 := hGm89.1 70 _ rfl _ _
                  refine ww_go 9 (pc' := 158) (L' := [(6, .inl (m55.1 69 0 (((6 * f) + x).toNat))), (5, .inl ((6 * f) + x)), (0, .inr (.inr (.inl (some (34, 0))))), (1, .inl f), (2, .inl x), (3, .inl y), (4, .inl b)]) (st' := [.inl (m89.1 70 0 (((96 * ((6 * f) + x)) + y).toNat))]) (m' := m89) (o := some ((0 < 1) ∧ (0 < 1 ∧ 0 ≤ (96 * ((6 * f) + x)) + y ∧ (96 * ((6 * f) + x)) + y < ((1152 : Nat) : Int)))) rfl (show (0 < 1) ∧ (0 < 1 ∧ 0 ≤ (96 * ((6 * f) + x)) + y ∧ (96 * ((6 * f) + x)) + y < ((1152 : Nat) : Int)) from by omega) ?_
                  exact ww_rI rfl rfl ⟨_, rfl, rfl, zB_mono hGm89 (by omega), hFm89, by trivial⟩
                · show wW (zK sc) zM198 119 [(6, .inl (m55.1 69 0 (((6 * f) + x).toNat))), (5, .inl ((6 * f) + x)), (0, .inr (.inr (.inl (some (34, 0))))), (1, .inl f), (2, .inl x), (3, .inl y), (4, .inl b)] [] _ _ _
                  refine ww_go 2 (pc' := 158) (L' := [(6, .inl (m55.1 69 0 (((6 * f) + x).toNat))), (5, .inl ((6 * f) + x)), (0, .inr (.inr (.inl (some (34, 0))))), (1, .inl f), (2, .inl x), (3, .inl y), (4, .inl b)]) (st' := [.inl (m55.1 69 0 (((6 * f) + x).toNat))]) (m' := m89) (o := none) rfl trivial ?_
                  exact ww_rI rfl rfl ⟨_, rfl, rfl, zB_mono hGm89 (by omega), hFm89, by trivial⟩
              · show wW (zK sc) zM198 113 [(6, .inl (m55.1 69 0 (((6 * f) + x).toNat))), (5, .inl ((6 * f) + x)), (0, .inr (.inr (.inl (some (34, 0))))), (1, .inl f), (2, .inl x), (3, .inl y), (4, .inl b)] [] _ _ _
                refine ww_go 1 (pc' := 114) (L' := [(6, .inl (m55.1 69 0 (((6 * f) + x).toNat))), (5, .inl ((6 * f) + x)), (0, .inr (.inr (.inl (some (34, 0))))), (1, .inl f), (2, .inl x), (3, .inl y), (4, .inl b)]) (st' := [.inl 0]) (m' := m89) (o := none) rfl trivial ?_
                exact ww_rI rfl rfl ⟨_, rfl, rfl, zB_mono hGm89 (by omega), hFm89, by trivial⟩
        · show wW (zK sc) zM198 51 [(0, .inr (.inr (.inl (some (34, 0))))), (1, .inl f), (2, .inl x), (3, .inl y), (4, .inl b)] [] _ _ _
          refine ww_go 1 (pc' := 52) (L' := [(0, .inr (.inr (.inl (some (34, 0))))), (1, .inl f), (2, .inl x), (3, .inl y), (4, .inl b)]) (st' := [.inl 0]) (m' := m55) (o := none) rfl trivial ?_
          exact ww_rI rfl rfl ⟨_, rfl, rfl, zB_mono hGm55 (by omega), hFm55, by trivial⟩
  · show wW (zK sc) zM198 10 [(0, .inr (.inr (.inl (some (34, 0))))), (1, .inl f), (2, .inl x), (3, .inl y), (4, .inl b)] [.inr (.inr (.inl (some (34, 0))))] _ _ _
    refine ww_go 3 (pc' := 16) (L' := [(0, .inr (.inr (.inl (some (34, 0))))), (1, .inl f), (2, .inl x), (3, .inl y), (4, .inl b)]) (st' := [.inl 1, .inl 1, .inr (.inr (.inl (some (34, 0))))]) (m' := m0) (o := none) rfl trivial ?_
    refine ww_call (vs := [.inr (.inr (.inl (some (34, 0)))), .inl 1, .inl 1]) (r := []) (p := 0 < 1) rfl rfl rfl rfl (show 0 < 1 from by omega) (zs196 (c := c) (by omega) 1 1 hG (by omega)) ?_
    rintro _ _ m96 ⟨r94, rfl, rfl, hGm96, hEm96, hr95⟩
    have hFm96 : zfr (fun k i j => (k = 34 ∧ j = 0)) m0 m96 := zfr_tr hF hEm96 (fun k i j z => z)
    show wW (zK sc) zM198 19 [(0, .inr (.inr (.inl (some (34, 0))))), (1, .inl f), (2, .inl x), (3, .inl y), (4, .inl b)] [.inl r94] _ _ _
    refine ww_if (t := 51) rfl rfl (by omega) (fun (h97 : r94 ≠ 0) => ?_) (fun (h97 : ¬ (r94 ≠ 0)) => ?_)
    · show wW (zK sc) zM198 51 [(0, .inr (.inr (.inl (some (34, 0))))), (1, .inl f), (2, .inl x), (3, .inl y), (4, .inl b)] [] _ _ _
      refine ww_go 1 (pc' := 52) (L' := [(0, .inr (.inr (.inl (some (34, 0))))), (1, .inl f), (2, .inl x), (3, .inl y), (4, .inl b)]) (st' := [.inl 0]) (m' := m96) (o := none) rfl trivial ?_
      exact ww_rI rfl rfl ⟨_, rfl, rfl, zB_mono hGm96 (by omega), hFm96, by trivial⟩
    · show wW (zK sc) zM198 22 [(0, .inr (.inr (.inl (some (34, 0))))), (1, .inl f), (2, .inl x), (3, .inl y), (4, .inl b)] [] _ _ _
      have b98 : 0 ≤ m96.1 67 0 f.toNat ∧ m96.1 67 0 f.toNat ≤ 6 := hGm96.1 67 _ rfl _ _
      refine ww_go 9 (pc' := 33) (L' := [(0, .inr (.inr (.inl (some (34, 0))))), (1, .inl f), (2, .inl x), (3, .inl y), (4, .inl b)]) (st' := [.inl ((m96.1 67 0 f.toNat) - 1), .inl 0, .inl x, .inr (.inr (.inl (some (34, 0))))]) (m' := m96) (o := some ((0 < 1) ∧ (0 < 1 ∧ 0 ≤ f ∧ f < ((2 : Nat) : Int)))) rfl (show (0 < 1) ∧ (0 < 1 ∧ 0 ≤ f ∧ f < ((2 : Nat) : Int)) from by omega) ?_
      refine ww_call (vs := [.inl x, .inl 0, .inl ((m96.1 67 0 f.toNat) - 1)]) (r := [.inr (.inr (.inl (some (34, 0))))]) (p := True) rfl rfl rfl rfl trivial (zs207 x 0 ((m96.1 67 0 f.toNat) - 1) (by omega)) ?_
      rintro _ _ _ ⟨r99, rfl, rfl, rfl, hr100⟩
      show wW (zK sc) zM198 36 [(0, .inr (.inr (.inl (some (34, 0))))), (1, .inl f), (2, .inl x), (3, .inl y), (4, .inl b)] [.inl r99, .inr (.inr (.inl (some (34, 0))))] _ _ _
      refine ww_if (t := 43) rfl rfl (by omega) (fun (h101 : r99 ≠ 0) => ?_) (fun (h101 : ¬ (r99 ≠ 0)) => ?_)
      · show wW (zK sc) zM198 43 [(0, .inr (.inr (.inl (some (34, 0))))), (1, .inl f), (2, .inl x), (3, .inl y), (4, .inl b)] [.inr (.inr (.inl (some (34, 0))))] _ _ _
        refine ww_go 2 (pc' := 45) (L' := [(0, .inr (.inr (.inl (some (34, 0))))), (1, .inl f), (2, .inl x), (3, .inl y), (4, .inl b)]) (st' := [.inl 2, .inl 0, .inr (.inr (.inl (some (34, 0))))]) (m' := m96) (o := none) rfl trivial ?_
        refine ww_call (vs := [.inr (.inr (.inl (some (34, 0)))), .inl 0, .inl 2]) (r := []) (p := 0 < 1) rfl rfl rfl rfl (show 0 < 1 from by omega) (zs196 (c := c) (by omega) 0 2 hGm96 (by omega)) ?_
        rintro _ _ m104 ⟨r102, rfl, rfl, hGm104, hEm104, hr103⟩
        have hFm104 : zfr (fun k i j => (k = 34 ∧ j = 0)) m0 m104 := zfr_tr hFm96 hEm104 (fun k i j z => z)
        show wW (zK sc) zM198 48 [(0, .inr (.inr (.inl (some (34, 0))))), (1, .inl f), (2, .inl x), (3, .inl y), (4, .inl b)] [.inl r102] _ _ _
        refine ww_if (t := 53) rfl rfl (by omega) (fun (h105 : r102 = 0) => ?_) (fun (h105 : ¬ (r102 = 0)) => ?_)
        · show wW (zK sc) zM198 53 [(0, .inr (.inr (.inl (some (34, 0))))), (1, .inl f), (2, .inl x), (3, .inl y), (4, .inl b)] [] _ _ _
          refine ww_go 7 (pc' := 63) (L' := [(5, .inl ((6 * f) + x)), (0, .inr (.inr (.inl (some (34, 0))))), (1, .inl f), (2, .inl x), (3, .inl y), (4, .inl b)]) (st' := [.inl b]) (m' := m104) (o := none) rfl trivial ?_
          refine ww_if (t := 76) rfl rfl (by omega) (fun (h106 : b = 0) => ?_) (fun (h106 : ¬ (b = 0)) => ?_)
          · show wW (zK sc) zM198 76 [(5, .inl ((6 * f) + x)), (0, .inr (.inr (.inl (some (34, 0))))), (1, .inl f), (2, .inl x), (3, .inl y), (4, .inl b)] [] _ _ _
            have b107 := zRN hGm104 ((7 * ((6 * f) + x)).toNat)
            refine ww_go 13 (pc' := 95) (L' := [(6, .inl (m104.1 68 0 ((7 * ((6 * f) + x)).toNat))), (5, .inl ((6 * f) + x)), (0, .inr (.inr (.inl (some (34, 0))))), (1, .inl f), (2, .inl x), (3, .inl y), (4, .inl b)]) (st' := [.inl ((m104.1 68 0 ((7 * ((6 * f) + x)).toNat)) - 1), .inl ((-1)), .inl y, .inr (.inr (.inl (some (34, 0))))]) (m' := m104) (o := some ((0 < 1) ∧ (0 < 1 ∧ 0 ≤ 7 * ((6 * f) + x) ∧ 7 * ((6 * f) + x) < ((84 : Nat) : Int)))) rfl (show (0 < 1) ∧ (0 < 1 ∧ 0 ≤ 7 * ((6 * f) + x) ∧ 7 * ((6 * f) + x) < ((84 : Nat) : Int)) from by omega) ?_
            refine ww_call (vs := [.inl y, .inl ((-1)), .inl ((m104.1 68 0 ((7 * ((6 * f) + x)).toNat)) - 1)]) (r := [.inr (.inr (.inl (some (34, 0))))]) (p := True) rfl rfl rfl rfl trivial (zs207 y ((-1)) ((m104.1 68 0 ((7 * ((6 * f) + x)).toNat)) - 1) (by omega)) ?_
            rintro _ _ _ ⟨r108, rfl, rfl, rfl, hr109⟩
            show wW (zK sc) zM198 98 [(6, .inl (m104.1 68 0 ((7 * ((6 * f) + x)).toNat))), (5, .inl ((6 * f) + x)), (0, .inr (.inr (.inl (some (34, 0))))), (1, .inl f), (2, .inl x), (3, .inl y), (4, .inl b)] [.inl r108, .inr (.inr (.inl (some (34, 0))))] _ _ _
            refine ww_if (t := 105) rfl rfl (by omega) (fun (h110 : r108 ≠ 0) => ?_) (fun (h110 : ¬ (r108 ≠ 0)) => ?_)
            · show wW (zK sc) zM198 105 [(6, .inl (m104.1 68 0 ((7 * ((6 * f) + x)).toNat))), (5, .inl ((6 * f) + x)), (0, .inr (.inr (.inl (some (34, 0))))), (1, .inl f), (2, .inl x), (3, .inl y), (4, .inl b)] [.inr (.inr (.inl (some (34, 0))))] _ _ _
              refine ww_go 2 (pc' := 107) (L' := [(6, .inl (m104.1 68 0 ((7 * ((6 * f) + x)).toNat))), (5, .inl ((6 * f) + x)), (0, .inr (.inr (.inl (some (34, 0))))), (1, .inl f), (2, .inl x), (3, .inl y), (4, .inl b)]) (st' := [.inl 2, .inl 0, .inr (.inr (.inl (some (34, 0))))]) (m' := m104) (o := none) rfl trivial ?_
              refine ww_call (vs := [.inr (.inr (.inl (some (34, 0)))), .inl 0, .inl 2]) (r := []) (p := 0 < 1) rfl rfl rfl rfl (show 0 < 1 from by omega) (zs196 (c := c) (by omega) 0 2 hGm104 (by omega)) ?_
              rintro _ _ m113 ⟨r111, rfl, rfl, hGm113, hEm113, hr112⟩
              have hFm113 : zfr (fun k i j => (k = 34 ∧ j = 0)) m0 m113 := zfr_tr hFm104 hEm113 (fun k i j z => z)
              show wW (zK sc) zM198 110 [(6, .inl (m104.1 68 0 ((7 * ((6 * f) + x)).toNat))), (5, .inl ((6 * f) + x)), (0, .inr (.inr (.inl (some (34, 0))))), (1, .inl f), (2, .inl x), (3, .inl y), (4, .inl b)] [.inl r111] _ _ _
              refine ww_if (t := 115) rfl rfl (by omega) (fun (h114 : r111 = 0) => ?_) (fun (h114 : ¬ (r111 = 0)) => ?_)
              · show wW (zK sc) zM198 115 [(6, .inl (m104.1 68 0 ((7 * ((6 * f) + x)).toNat))), (5, .inl ((6 * f) + x)), (0, .inr (.inr (.inl (some (34, 0))))), (1, .inl f), (2, .inl x), (3, .inl y), (4, .inl b)] [] _ _ _
                refine ww_go 1 (pc' := 116) (L' := [(6, .inl (m104.1 68 0 ((7 * ((6 * f) + x)).toNat))), (5, .inl ((6 * f) + x)), (0, .inr (.inr (.inl (some (34, 0))))), (1, .inl f), (2, .inl x), (3, .inl y), (4, .inl b)]) (st' := [.inl y]) (m' := m113) (o := none) rfl trivial ?_
                refine ww_if (t := 124) rfl rfl (by omega) (fun (h115 : 0 ≤ y) => ?_) (fun (h115 : ¬ (0 ≤ y)) => ?_)
                · show wW (zK sc) zM198 124 [(6, .inl (m104.1 68 0 ((7 * ((6 * f) + x)).toNat))), (5, .inl ((6 * f) + x)), (0, .inr (.inr (.inl (some (34, 0))))), (1, .inl f), (2, .inl x), (3, .inl y), (4, .inl b)] [] _ _ _
                  refine ww_go 1 (pc' := 126) (L' := [(6, .inl (m104.1 68 0 ((7 * ((6 * f) + x)).toNat))), (5, .inl ((6 * f) + x)), (0, .inr (.inr (.inl (some (34, 0))))), (1, .inl f), (2, .inl x), (3, .inl y), (4, .inl b)]) (st' := [.inl b]) (m' := m113) (o := none) rfl trivial ?_
                  refine ww_if (t := 144) rfl rfl (by omega) (fun (h116 : b = 0) => ?_) (fun (h116 : ¬ (b = 0)) => absurd (show b = 0 from by omega) h116)
                  show wW (zK sc) zM198 144 [(6, .inl (m104.1 68 0 ((7 * ((6 * f) + x)).toNat))), (5, .inl ((6 * f) + x)), (0, .inr (.inr (.inl (some (34, 0))))), (1, .inl f), (2, .inl x), (3, .inl y), (4, .inl b)] [] _ _ _
                  have b117 := zRN hGm113 ((((7 * ((6 * f) + x)) + 1) + y).toNat)
                  refine ww_go 10 (pc' := 158) (L' := [(6, .inl (m104.1 68 0 ((7 * ((6 * f) + x)).toNat))), (5, .inl ((6 * f) + x)), (0, .inr (.inr (.inl (some (34, 0))))), (1, .inl f), (2, .inl x), (3, .inl y), (4, .inl b)]) (st' := [.inl (m113.1 68 0 ((((7 * ((6 * f) + x)) + 1) + y).toNat))]) (m' := m113) (o := some ((0 < 1) ∧ (0 < 1 ∧ 0 ≤ ((7 * ((6 * f) + x)) + 1) + y ∧ ((7 * ((6 * f) + x)) + 1) + y < ((84 : Nat) : Int)))) rfl (show (0 < 1) ∧ (0 < 1 ∧ 0 ≤ ((7 * ((6 * f) + x)) + 1) + y ∧ ((7 * ((6 * f) + x)) + 1) + y < ((84 : Nat) : Int)) from by omega) ?_
                  exact ww_rI rfl rfl ⟨_, rfl, rfl, zB_mono hGm113 (by omega), hFm113, by trivial⟩
                · show wW (zK sc) zM198 119 [(6, .inl (m104.1 68 0 ((7 * ((6 * f) + x)).toNat))), (5, .inl ((6 * f) + x)), (0, .inr (.inr (.inl (some (34, 0))))), (1, .inl f), (2, .inl x), (3, .inl y), (4, .inl b)] [] _ _ _
                  refine ww_go 2 (pc' := 158) (L' := [(6, .inl (m104.1 68 0 ((7 * ((6 * f) + x)).toNat))), (5, .inl ((6 * f) + x)), (0, .inr (.inr (.inl (some (34, 0))))), (1, .inl f), (2, .inl x), (3, .inl y), (4, .inl b)]) (st' := [.inl (m104.1 68 0 ((7 * ((6 * f) + x)).toNat))]) (m' := m113) (o := none) rfl trivial ?_
                  exact ww_rI rfl rfl ⟨_, rfl, rfl, zB_mono hGm113 (by omega), hFm113, by trivial⟩
              · show wW (zK sc) zM198 113 [(6, .inl (m104.1 68 0 ((7 * ((6 * f) + x)).toNat))), (5, .inl ((6 * f) + x)), (0, .inr (.inr (.inl (some (34, 0))))), (1, .inl f), (2, .inl x), (3, .inl y), (4, .inl b)] [] _ _ _
                refine ww_go 1 (pc' := 114) (L' := [(6, .inl (m104.1 68 0 ((7 * ((6 * f) + x)).toNat))), (5, .inl ((6 * f) + x)), (0, .inr (.inr (.inl (some (34, 0))))), (1, .inl f), (2, .inl x), (3, .inl y), (4, .inl b)]) (st' := [.inl 0]) (m' := m113) (o := none) rfl trivial ?_
                exact ww_rI rfl rfl ⟨_, rfl, rfl, zB_mono hGm113 (by omega), hFm113, by trivial⟩
            · show wW (zK sc) zM198 101 [(6, .inl (m104.1 68 0 ((7 * ((6 * f) + x)).toNat))), (5, .inl ((6 * f) + x)), (0, .inr (.inr (.inl (some (34, 0))))), (1, .inl f), (2, .inl x), (3, .inl y), (4, .inl b)] [.inr (.inr (.inl (some (34, 0))))] _ _ _
              refine ww_go 3 (pc' := 107) (L' := [(6, .inl (m104.1 68 0 ((7 * ((6 * f) + x)).toNat))), (5, .inl ((6 * f) + x)), (0, .inr (.inr (.inl (some (34, 0))))), (1, .inl f), (2, .inl x), (3, .inl y), (4, .inl b)]) (st' := [.inl 2, .inl 1, .inr (.inr (.inl (some (34, 0))))]) (m' := m104) (o := none) rfl trivial ?_
              refine ww_call (vs := [.inr (.inr (.inl (some (34, 0)))), .inl 1, .inl 2]) (r := []) (p := 0 < 1) rfl rfl rfl rfl (show 0 < 1 from by omega) (zs196 (c := c) (by omega) 1 2 hGm104 (by omega)) ?_
              rintro _ _ m120 ⟨r118, rfl, rfl, hGm120, hEm120, hr119⟩
              have hFm120 : zfr (fun k i j => (k = 34 ∧ j = 0)) m0 m120 := zfr_tr hFm104 hEm120 (fun k i j z => z)
              show wW (zK sc) zM198 110 [(6, .inl (m104.1 68 0 ((7 * ((6 * f) + x)).toNat))), (5, .inl ((6 * f) + x)), (0, .inr (.inr (.inl (some (34, 0))))), (1, .inl f), (2, .inl x), (3, .inl y), (4, .inl b)] [.inl r118] _ _ _
              refine ww_if (t := 115) rfl rfl (by omega) (fun (h121 : r118 = 0) => ?_) (fun (h121 : ¬ (r118 = 0)) => ?_)
              · show wW (zK sc) zM198 115 [(6, .inl (m104.1 68 0 ((7 * ((6 * f) + x)).toNat))), (5, .inl ((6 * f) + x)), (0, .inr (.inr (.inl (some (34, 0))))), (1, .inl f), (2, .inl x), (3, .inl y), (4, .inl b)] [] _ _ _
                refine ww_go 1 (pc' := 116) (L' := [(6, .inl (m104.1 68 0 ((7 * ((6 * f) + x)).toNat))), (5, .inl ((6 * f) + x)), (0, .inr (.inr (.inl (some (34, 0))))), (1, .inl f), (2, .inl x), (3, .inl y), (4, .inl b)]) (st' := [.inl y]) (m' := m120) (o := none) rfl trivial ?_
                refine ww_if (t := 124) rfl rfl (by omega) (fun (h122 : 0 ≤ y) => ?_) (fun (h122 : ¬ (0 ≤ y)) => ?_)
                · show wW (zK sc) zM198 124 [(6, .inl (m104.1 68 0 ((7 * ((6 * f) + x)).toNat))), (5, .inl ((6 * f) + x)), (0, .inr (.inr (.inl (some (34, 0))))), (1, .inl f), (2, .inl x), (3, .inl y), (4, .inl b)] [] _ _ _
                  refine ww_go 1 (pc' := 126) (L' := [(6, .inl (m104.1 68 0 ((7 * ((6 * f) + x)).toNat))), (5, .inl ((6 * f) + x)), (0, .inr (.inr (.inl (some (34, 0))))), (1, .inl f), (2, .inl x), (3, .inl y), (4, .inl b)]) (st' := [.inl b]) (m' := m120) (o := none) rfl trivial ?_
                  refine ww_if (t := 144) rfl rfl (by omega) (fun (h123 : b = 0) => ?_) (fun (h123 : ¬ (b = 0)) => absurd (show b = 0 from by omega) h123)
                  show wW (zK sc) zM198 144 [(6, .inl (m104.1 68 0 ((7 * ((6 * f) + x)).toNat))), (5, .inl ((6 * f) + x)), (0, .inr (.inr (.inl (some (34, 0))))), (1, .inl f), (2, .inl x), (3, .inl y), (4, .inl b)] [] _ _ _
                  have b124 := zRN hGm120 ((((7 * ((6 * f) + x)) + 1) + y).toNat)
                  refine ww_go 10 (pc' := 158) (L' := [(6, .inl (m104.1 68 0 ((7 * ((6 * f) + x)).toNat))), (5, .inl ((6 * f) + x)), (0, .inr (.inr (.inl (some (34, 0))))), (1, .inl f), (2, .inl x), (3, .inl y), (4, .inl b)]) (st' := [.inl (m120.1 68 0 ((((7 * ((6 * f) + x)) + 1) + y).toNat))]) (m' := m120) (o := some ((0 < 1) ∧ (0 < 1 ∧ 0 ≤ ((7 * ((6 * f) + x)) + 1) + y ∧ ((7 * ((6 * f) + x)) + 1) + y < ((84 : Nat) : Int)))) rfl (show (0 < 1) ∧ (0 < 1 ∧ 0 ≤ ((7 * ((6 * f) + x)) + 1) + y ∧ ((7 * ((6 * f) + x)) + 1) + y < ((84 : Nat) : Int)) from by omega) ?_
                  exact ww_rI rfl rfl ⟨_, rfl, rfl, zB_mono hGm120 (by omega), hFm120, by trivial⟩
                · show wW (zK sc) zM198 119 [(6, .inl (m104.1 68 0 ((7 * ((6 * f) + x)).toNat))), (5, .inl ((6 * f) + x)), (0, .inr (.inr (.inl (some (34, 0))))), (1, .inl f), (2, .inl x), (3, .inl y), (4, .inl b)] [] _ _ _
                  refine ww_go 2 (pc' := 158) (L' := [(6, .inl (m104.1 68 0 ((7 * ((6 * f) + x)).toNat))), (5, .inl ((6 * f) + x)), (0, .inr (.inr (.inl (some (34, 0))))), (1, .inl f), (2, .inl x), (3, .inl y), (4, .inl b)]) (st' := [.inl (m104.1 68 0 ((7 * ((6 * f) + x)).toNat))]) (m' := m120) (o := none) rfl trivial ?_
                  exact ww_rI rfl rfl ⟨_, rfl, rfl, zB_mono hGm120 (by omega), hFm120, by trivial⟩
              · show wW (zK sc) zM198 113 [(6, .inl (m104.1 68 0 ((7 * ((6 * f) + x)).toNat))), (5, .inl ((6 * f) + x)), (0, .inr (.inr (.inl (some (34, 0))))), (1, .inl f), (2, .inl x), (3, .inl y), (4, .inl b)] [] _ _ _
                refine ww_go 1 (pc' := 114) (L' := [(6, .inl (m104.1 68 0 ((7 * ((6 * f) + x)).toNat))), (5, .inl ((6 * f) + x)), (0, .inr (.inr (.inl (some (34, 0))))), (1, .inl f), (2, .inl x), (3, .inl y), (4, .inl b)]) (st' := [.inl 0]) (m' := m120) (o := none) rfl trivial ?_
                exact ww_rI rfl rfl ⟨_, rfl, rfl, zB_mono hGm120 (by omega), hFm120, by trivial⟩
          · show wW (zK sc) zM198 66 [(5, .inl ((6 * f) + x)), (0, .inr (.inr (.inl (some (34, 0))))), (1, .inl f), (2, .inl x), (3, .inl y), (4, .inl b)] [] _ _ _
            have b125 : 0 ≤ m104.1 69 0 (((6 * f) + x).toNat) ∧ m104.1 69 0 (((6 * f) + x).toNat) ≤ 96 := hGm104.1 69 _ rfl _ _
            refine ww_go 12 (pc' := 95) (L' := [(6, .inl (m104.1 69 0 (((6 * f) + x).toNat))), (5, .inl ((6 * f) + x)), (0, .inr (.inr (.inl (some (34, 0))))), (1, .inl f), (2, .inl x), (3, .inl y), (4, .inl b)]) (st' := [.inl ((m104.1 69 0 (((6 * f) + x).toNat)) - 1), .inl ((-1)), .inl y, .inr (.inr (.inl (some (34, 0))))]) (m' := m104) (o := some ((0 < 1) ∧ (0 < 1 ∧ 0 ≤ (6 * f) + x ∧ (6 * f) + x < ((12 : Nat) : Int)))) rfl (show (0 < 1) ∧ (0 < 1 ∧ 0 ≤ (6 * f) + x ∧ (6 * f) + x < ((12 : Nat) : Int)) from by omega) ?_
            refine ww_call (vs := [.inl y, .inl ((-1)), .inl ((m104.1 69 0 (((6 * f) + x).toNat)) - 1)]) (r := [.inr (.inr (.inl (some (34, 0))))]) (p := True) rfl rfl rfl rfl trivial (zs207 y ((-1)) ((m104.1 69 0 (((6 * f) + x).toNat)) - 1) (by omega)) ?_
            rintro _ _ _ ⟨r126, rfl, rfl, rfl, hr127⟩
            show wW (zK sc) zM198 98 [(6, .inl (m104.1 69 0 (((6 * f) + x).toNat))), (5, .inl ((6 * f) + x)), (0, .inr (.inr (.inl (some (34, 0))))), (1, .inl f), (2, .inl x), (3, .inl y), (4, .inl b)] [.inl r126, .inr (.inr (.inl (some (34, 0))))] _ _ _
            refine ww_if (t := 105) rfl rfl (by omega) (fun (h128 : r126 ≠ 0) => ?_) (fun (h128 : ¬ (r126 ≠ 0)) => ?_)
            · show wW (zK sc) zM198 105 [(6, .inl (m104.1 69 0 (((6 * f) + x).toNat))), (5, .inl ((6 * f) + x)), (0, .inr (.inr (.inl (some (34, 0))))), (1, .inl f), (2, .inl x), (3, .inl y), (4, .inl b)] [.inr (.inr (.inl (some (34, 0))))] _ _ _
              refine ww_go 2 (pc' := 107) (L' := [(6, .inl (m104.1 69 0 (((6 * f) + x).toNat))), (5, .inl ((6 * f) + x)), (0, .inr (.inr (.inl (some (34, 0))))), (1, .inl f), (2, .inl x), (3, .inl y), (4, .inl b)]) (st' := [.inl 2, .inl 0, .inr (.inr (.inl (some (34, 0))))]) (m' := m104) (o := none) rfl trivial ?_
              refine ww_call (vs := [.inr (.inr (.inl (some (34, 0)))), .inl 0, .inl 2]) (r := []) (p := 0 < 1) rfl rfl rfl rfl (show 0 < 1 from by omega) (zs196 (c := c) (by omega) 0 2 hGm104 (by omega)) ?_
              rintro _ _ m131 ⟨r129, rfl, rfl, hGm131, hEm131, hr130⟩
              have hFm131 : zfr (fun k i j => (k = 34 ∧ j = 0)) m0 m131 := zfr_tr hFm104 hEm131 (fun k i j z => z)
              show wW (zK sc) zM198 110 [(6, .inl (m104.1 69 0 (((6 * f) + x).toNat))), (5, .inl ((6 * f) + x)), (0, .inr (.inr (.inl (some (34, 0))))), (1, .inl f), (2, .inl x), (3, .inl y), (4, .inl b)] [.inl r129] _ _ _
              refine ww_if (t := 115) rfl rfl (by omega) (fun (h132 : r129 = 0) => ?_) (fun (h132 : ¬ (r129 = 0)) => ?_)
              · show wW (zK sc) zM198 115 [(6, .inl (m104.1 69 0 (((6 * f) + x).toNat))), (5, .inl ((6 * f) + x)), (0, .inr (.inr (.inl (some (34, 0))))), (1, .inl f), (2, .inl x), (3, .inl y), (4, .inl b)] [] _ _ _
                refine ww_go 1 (pc' := 116) (L' := [(6, .inl (m104.1 69 0 (((6 * f) + x).toNat))), (5, .inl ((6 * f) + x)), (0, .inr (.inr (.inl (some (34, 0))))), (1, .inl f), (2, .inl x), (3, .inl y), (4, .inl b)]) (st' := [.inl y]) (m' := m131) (o := none) rfl trivial ?_
                refine ww_if (t := 124) rfl rfl (by omega) (fun (h133 : 0 ≤ y) => ?_) (fun (h133 : ¬ (0 ≤ y)) => ?_)
                · show wW (zK sc) zM198 124 [(6, .inl (m104.1 69 0 (((6 * f) + x).toNat))), (5, .inl ((6 * f) + x)), (0, .inr (.inr (.inl (some (34, 0))))), (1, .inl f), (2, .inl x), (3, .inl y), (4, .inl b)] [] _ _ _
                  refine ww_go 1 (pc' := 126) (L' := [(6, .inl (m104.1 69 0 (((6 * f) + x).toNat))), (5, .inl ((6 * f) + x)), (0, .inr (.inr (.inl (some (34, 0))))), (1, .inl f), (2, .inl x), (3, .inl y), (4, .inl b)]) (st' := [.inl b]) (m' := m131) (o := none) rfl trivial ?_
                  refine ww_if (t := 144) rfl rfl (by omega) (fun (h134 : b = 0) => absurd h134 (by omega)) (fun (h134 : ¬ (b = 0)) => ?_)
                  show wW (zK sc) zM198 129 [(6, .inl (m104.1 69 0 (((6 * f) + x).toNat))), (5, .inl ((6 * f) + x)), (0, .inr (.inr (.inl (some (34, 0))))), (1, .inl f), (2, .inl x), (3, .inl y), (4, .inl b)] [] _ _ _
                  have b135 : 0 ≤ m131.1 70 0 (((96 * ((6 * f) + x)) + y).toNat) ∧ m131.1 70 0 (((96 * ((6 * f) + x)) + y).toNat) ≤ 255 := hGm131.1 70 _ rfl _ _
                  refine ww_go 9 (pc' := 158) (L' := [(6, .inl (m104.1 69 0 (((6 * f) + x).toNat))), (5, .inl ((6 * f) + x)), (0, .inr (.inr (.inl (some (34, 0))))), (1, .inl f), (2, .inl x), (3, .inl y), (4, .inl b)]) (st' := [.inl (m131.1 70 0 (((96 * ((6 * f) + x)) + y).toNat))]) (m' := m131) (o := some ((0 < 1) ∧ (0 < 1 ∧ 0 ≤ (96 * ((6 * f) + x)) + y ∧ (96 * ((6 * f) + x)) + y < ((1152 : Nat) : Int)))) rfl (show (0 < 1) ∧ (0 < 1 ∧ 0 ≤ (96 * ((6 * f) + x)) + y ∧ (96 * ((6 * f) + x)) + y < ((1152 : Nat) : Int)) from by omega) ?_
                  exact ww_rI rfl rfl ⟨_, rfl, rfl, zB_mono hGm131 (by omega), hFm131, by trivial⟩
                · show wW (zK sc) zM198 119 [(6, .inl (m104.1 69 0 (((6 * f) + x).toNat))), (5, .inl ((6 * f) + x)), (0, .inr (.inr (.inl (some (34, 0))))), (1, .inl f), (2, .inl x), (3, .inl y), (4, .inl b)] [] _ _ _
                  refine ww_go 2 (pc' := 158) (L' := [(6, .inl (m104.1 69 0 (((6 * f) + x).toNat))), (5, .inl ((6 * f) + x)), (0, .inr (.inr (.inl (some (34, 0))))), (1, .inl f), (2, .inl x), (3, .inl y), (4, .inl b)]) (st' := [.inl (m104.1 69 0 (((6 * f) + x).toNat))]) (m' := m131) (o := none) rfl trivial ?_
                  exact ww_rI rfl rfl ⟨_, rfl, rfl, zB_mono hGm131 (by omega), hFm131, by trivial⟩
              · show wW (zK sc) zM198 113 [(6, .inl (m104.1 69 0 (((6 * f) + x).toNat))), (5, .inl ((6 * f) + x)), (0, .inr (.inr (.inl (some (34, 0))))), (1, .inl f), (2, .inl x), (3, .inl y), (4, .inl b)] [] _ _ _
                refine ww_go 1 (pc' := 114) (L' := [(6, .inl (m104.1 69 0 (((6 * f) + x).toNat))), (5, .inl ((6 * f) + x)), (0, .inr (.inr (.inl (some (34, 0))))), (1, .inl f), (2, .inl x), (3, .inl y), (4, .inl b)]) (st' := [.inl 0]) (m' := m131) (o := none) rfl trivial ?_
                exact ww_rI rfl rfl ⟨_, rfl, rfl, zB_mono hGm131 (by omega), hFm131, by trivial⟩
            · show wW (zK sc) zM198 101 [(6, .inl (m104.1 69 0 (((6 * f) + x).toNat))), (5, .inl ((6 * f) + x)), (0, .inr (.inr (.inl (some (34, 0))))), (1, .inl f), (2, .inl x), (3, .inl y), (4, .inl b)] [.inr (.inr (.inl (some (34, 0))))] _ _ _
              refine ww_go 3 (pc' := 107) (L' := [(6, .inl (m104.1 69 0 (((6 * f) + x).toNat))), (5, .inl ((6 * f) + x)), (0, .inr (.inr (.inl (some (34, 0))))), (1, .inl f), (2, .inl x), (3, .inl y), (4, .inl b)]) (st' := [.inl 2, .inl 1, .inr (.inr (.inl (some (34, 0))))]) (m' := m104) (o := none) rfl trivial ?_
              refine ww_call (vs := [.inr (.inr (.inl (some (34, 0)))), .inl 1, .inl 2]) (r := []) (p := 0 < 1) rfl rfl rfl rfl (show 0 < 1 from by omega) (zs196 (c := c) (by omega) 1 2 hGm104 (by omega)) ?_
              rintro _ _ m138 ⟨r136, rfl, rfl, hGm138, hEm138, hr137⟩
              have hFm138 : zfr (fun k i j => (k = 34 ∧ j = 0)) m0 m138 := zfr_tr hFm104 hEm138 (fun k i j z => z)
              show wW (zK sc) zM198 110 [(6, .inl (m104.1 69 0 (((6 * f) + x).toNat))), (5, .inl ((6 * f) + x)), (0, .inr (.inr (.inl (some (34, 0))))), (1, .inl f), (2, .inl x), (3, .inl y), (4, .inl b)] [.inl r136] _ _ _
              refine ww_if (t := 115) rfl rfl (by omega) (fun (h139 : r136 = 0) => ?_) (fun (h139 : ¬ (r136 = 0)) => ?_)
              · show wW (zK sc) zM198 115 [(6, .inl (m104.1 69 0 (((6 * f) + x).toNat))), (5, .inl ((6 * f) + x)), (0, .inr (.inr (.inl (some (34, 0))))), (1, .inl f), (2, .inl x), (3, .inl y), (4, .inl b)] [] _ _ _
                refine ww_go 1 (pc' := 116) (L' := [(6, .inl (m104.1 69 0 (((6 * f) + x).toNat))), (5, .inl ((6 * f) + x)), (0, .inr (.inr (.inl (some (34, 0))))), (1, .inl f), (2, .inl x), (3, .inl y), (4, .inl b)]) (st' := [.inl y]) (m' := m138) (o := none) rfl trivial ?_
                refine ww_if (t := 124) rfl rfl (by omega) (fun (h140 : 0 ≤ y) => ?_) (fun (h140 : ¬ (0 ≤ y)) => ?_)
                · show wW (zK sc) zM198 124 [(6, .inl (m104.1 69 0 (((6 * f) + x).toNat))), (5, .inl ((6 * f) + x)), (0, .inr (.inr (.inl (some (34, 0))))), (1, .inl f), (2, .inl x), (3, .inl y), (4, .inl b)] [] _ _ _
                  refine ww_go 1 (pc' := 126) (L' := [(6, .inl (m104.1 69 0 (((6 * f) + x).toNat))), (5, .inl ((6 * f) + x)), (0, .inr (.inr (.inl (some (34, 0))))), (1, .inl f), (2, .inl x), (3, .inl y), (4, .inl b)]) (st' := [.inl b]) (m' := m138) (o := none) rfl trivial ?_
                  refine ww_if (t := 144) rfl rfl (by omega) (fun (h141 : b = 0) => absurd h141 (by omega)) (fun (h141 : ¬ (b = 0)) => ?_)
                  show wW (zK sc) zM198 129 [(6, .inl (m104.1 69 0 (((6 * f) + x).toNat))), (5, .inl ((6 * f) + x)), (0, .inr (.inr (.inl (some (34, 0))))), (1, .inl f), (2, .inl x), (3, .inl y), (4, .inl b)] [] _ _ _
                  have b142 : 0 ≤ m138.1 70 0 (((96 * ((6 * f) + x)) + y).toNat) ∧ m138.1 70 0 (((96 * ((6 * f) + x)) + y).toNat) ≤ 255 := hGm138.1 70 _ rfl _ _
                  refine ww_go 9 (pc' := 158) (L' := [(6, .inl (m104.1 69 0 (((6 * f) + x).toNat))), (5, .inl ((6 * f) + x)), (0, .inr (.inr (.inl (some (34, 0))))), (1, .inl f), (2, .inl x), (3, .inl y), (4, .inl b)]) (st' := [.inl (m138.1 70 0 (((96 * ((6 * f) + x)) + y).toNat))]) (m' := m138) (o := some ((0 < 1) ∧ (0 < 1 ∧ 0 ≤ (96 * ((6 * f) + x)) + y ∧ (96 * ((6 * f) + x)) + y < ((1152 : Nat) : Int)))) rfl (show (0 < 1) ∧ (0 < 1 ∧ 0 ≤ (96 * ((6 * f) + x)) + y ∧ (96 * ((6 * f) + x)) + y < ((1152 : Nat) : Int)) from by omega) ?_
                  exact ww_rI rfl rfl ⟨_, rfl, rfl, zB_mono hGm138 (by omega), hFm138, by trivial⟩
                · show wW (zK sc) zM198 119 [(6, .inl (m104.1 69 0 (((6 * f) + x).toNat))), (5, .inl ((6 * f) + x)), (0, .inr (.inr (.inl (some (34, 0))))), (1, .inl f), (2, .inl x), (3, .inl y), (4, .inl b)] [] _ _ _
                  refine ww_go 2 (pc' := 158) (L' := [(6, .inl (m104.1 69 0 (((6 * f) + x).toNat))), (5, .inl ((6 * f) + x)), (0, .inr (.inr (.inl (some (34, 0))))), (1, .inl f), (2, .inl x), (3, .inl y), (4, .inl b)]) (st' := [.inl (m104.1 69 0 (((6 * f) + x).toNat))]) (m' := m138) (o := none) rfl trivial ?_
                  exact ww_rI rfl rfl ⟨_, rfl, rfl, zB_mono hGm138 (by omega), hFm138, by trivial⟩
              · show wW (zK sc) zM198 113 [(6, .inl (m104.1 69 0 (((6 * f) + x).toNat))), (5, .inl ((6 * f) + x)), (0, .inr (.inr (.inl (some (34, 0))))), (1, .inl f), (2, .inl x), (3, .inl y), (4, .inl b)] [] _ _ _
                refine ww_go 1 (pc' := 114) (L' := [(6, .inl (m104.1 69 0 (((6 * f) + x).toNat))), (5, .inl ((6 * f) + x)), (0, .inr (.inr (.inl (some (34, 0))))), (1, .inl f), (2, .inl x), (3, .inl y), (4, .inl b)]) (st' := [.inl 0]) (m' := m138) (o := none) rfl trivial ?_
                exact ww_rI rfl rfl ⟨_, rfl, rfl, zB_mono hGm138 (by omega), hFm138, by trivial⟩
        · show wW (zK sc) zM198 51 [(0, .inr (.inr (.inl (some (34, 0))))), (1, .inl f), (2, .inl x), (3, .inl y), (4, .inl b)] [] _ _ _
          refine ww_go 1 (pc' := 52) (L' := [(0, .inr (.inr (.inl (some (34, 0))))), (1, .inl f), (2, .inl x), (3, .inl y), (4, .inl b)]) (st' := [.inl 0]) (m' := m104) (o := none) rfl trivial ?_
          exact ww_rI rfl rfl ⟨_, rfl, rfl, zB_mono hGm104 (by omega), hFm104, by trivial⟩
      · show wW (zK sc) zM198 39 [(0, .inr (.inr (.inl (some (34, 0))))), (1, .inl f), (2, .inl x), (3, .inl y), (4, .inl b)] [.inr (.inr (.inl (some (34, 0))))] _ _ _
        refine ww_go 3 (pc' := 45) (L' := [(0, .inr (.inr (.inl (some (34, 0))))), (1, .inl f), (2, .inl x), (3, .inl y), (4, .inl b)]) (st' := [.inl 2, .inl 1, .inr (.inr (.inl (some (34, 0))))]) (m' := m96) (o := none) rfl trivial ?_
        refine ww_call (vs := [.inr (.inr (.inl (some (34, 0)))), .inl 1, .inl 2]) (r := []) (p := 0 < 1) rfl rfl rfl rfl (show 0 < 1 from by omega) (zs196 (c := c) (by omega) 1 2 hGm96 (by omega)) ?_
        rintro _ _ m145 ⟨r143, rfl, rfl, hGm145, hEm145, hr144⟩
        have hFm145 : zfr (fun k i j => (k = 34 ∧ j = 0)) m0 m145 := zfr_tr hFm96 hEm145 (fun k i j z => z)
        show wW (zK sc) zM198 48 [(0, .inr (.inr (.inl (some (34, 0))))), (1, .inl f), (2, .inl x), (3, .inl y), (4, .inl b)] [.inl r143] _ _ _
        refine ww_if (t := 53) rfl rfl (by omega) (fun (h146 : r143 = 0) => ?_) (fun (h146 : ¬ (r143 = 0)) => ?_)
        · show wW (zK sc) zM198 53 [(0, .inr (.inr (.inl (some (34, 0))))), (1, .inl f), (2, .inl x), (3, .inl y), (4, .inl b)] [] _ _ _
          refine ww_go 7 (pc' := 63) (L' := [(5, .inl ((6 * f) + x)), (0, .inr (.inr (.inl (some (34, 0))))), (1, .inl f), (2, .inl x), (3, .inl y), (4, .inl b)]) (st' := [.inl b]) (m' := m145) (o := none) rfl trivial ?_
          refine ww_if (t := 76) rfl rfl (by omega) (fun (h147 : b = 0) => ?_) (fun (h147 : ¬ (b = 0)) => ?_)
          · show wW (zK sc) zM198 76 [(5, .inl ((6 * f) + x)), (0, .inr (.inr (.inl (some (34, 0))))), (1, .inl f), (2, .inl x), (3, .inl y), (4, .inl b)] [] _ _ _
            have b148 := zRN hGm145 ((7 * ((6 * f) + x)).toNat)
            refine ww_go 13 (pc' := 95) (L' := [(6, .inl (m145.1 68 0 ((7 * ((6 * f) + x)).toNat))), (5, .inl ((6 * f) + x)), (0, .inr (.inr (.inl (some (34, 0))))), (1, .inl f), (2, .inl x), (3, .inl y), (4, .inl b)]) (st' := [.inl ((m145.1 68 0 ((7 * ((6 * f) + x)).toNat)) - 1), .inl ((-1)), .inl y, .inr (.inr (.inl (some (34, 0))))]) (m' := m145) (o := some ((0 < 1) ∧ (0 < 1 ∧ 0 ≤ 7 * ((6 * f) + x) ∧ 7 * ((6 * f) + x) < ((84 : Nat) : Int)))) rfl (show (0 < 1) ∧ (0 < 1 ∧ 0 ≤ 7 * ((6 * f) + x) ∧ 7 * ((6 * f) + x) < ((84 : Nat) : Int)) from by omega) ?_
            refine ww_call (vs := [.inl y, .inl ((-1)), .inl ((m145.1 68 0 ((7 * ((6 * f) + x)).toNat)) - 1)]) (r := [.inr (.inr (.inl (some (34, 0))))]) (p := True) rfl rfl rfl rfl trivial (zs207 y ((-1)) ((m145.1 68 0 ((7 * ((6 * f) + x)).toNat)) - 1) (by omega)) ?_
            rintro _ _ _ ⟨r149, rfl, rfl, rfl, hr150⟩
            show wW (zK sc) zM198 98 [(6, .inl (m145.1 68 0 ((7 * ((6 * f) + x)).toNat))), (5, .inl ((6 * f) + x)), (0, .inr (.inr (.inl (some (34, 0))))), (1, .inl f), (2, .inl x), (3, .inl y), (4, .inl b)] [.inl r149, .inr (.inr (.inl (some (34, 0))))] _ _ _
            refine ww_if (t := 105) rfl rfl (by omega) (fun (h151 : r149 ≠ 0) => ?_) (fun (h151 : ¬ (r149 ≠ 0)) => ?_)
            · show wW (zK sc) zM198 105 [(6, .inl (m145.1 68 0 ((7 * ((6 * f) + x)).toNat))), (5, .inl ((6 * f) + x)), (0, .inr (.inr (.inl (some (34, 0))))), (1, .inl f), (2, .inl x), (3, .inl y), (4, .inl b)] [.inr (.inr (.inl (some (34, 0))))] _ _ _
              refine ww_go 2 (pc' := 107) (L' := [(6, .inl (m145.1 68 0 ((7 * ((6 * f) + x)).toNat))), (5, .inl ((6 * f) + x)), (0, .inr (.inr (.inl (some (34, 0))))), (1, .inl f), (2, .inl x), (3, .inl y), (4, .inl b)]) (st' := [.inl 2, .inl 0, .inr (.inr (.inl (some (34, 0))))]) (m' := m145) (o := none) rfl trivial ?_
              refine ww_call (vs := [.inr (.inr (.inl (some (34, 0)))), .inl 0, .inl 2]) (r := []) (p := 0 < 1) rfl rfl rfl rfl (show 0 < 1 from by omega) (zs196 (c := c) (by omega) 0 2 hGm145 (by omega)) ?_
              rintro _ _ m154 ⟨r152, rfl, rfl, hGm154, hEm154, hr153⟩
              have hFm154 : zfr (fun k i j => (k = 34 ∧ j = 0)) m0 m154 := zfr_tr hFm145 hEm154 (fun k i j z => z)
              show wW (zK sc) zM198 110 [(6, .inl (m145.1 68 0 ((7 * ((6 * f) + x)).toNat))), (5, .inl ((6 * f) + x)), (0, .inr (.inr (.inl (some (34, 0))))), (1, .inl f), (2, .inl x), (3, .inl y), (4, .inl b)] [.inl r152] _ _ _
              refine ww_if (t := 115) rfl rfl (by omega) (fun (h155 : r152 = 0) => ?_) (fun (h155 : ¬ (r152 = 0)) => ?_)
              · show wW (zK sc) zM198 115 [(6, .inl (m145.1 68 0 ((7 * ((6 * f) + x)).toNat))), (5, .inl ((6 * f) + x)), (0, .inr (.inr (.inl (some (34, 0))))), (1, .inl f), (2, .inl x), (3, .inl y), (4, .inl b)] [] _ _ _
                refine ww_go 1 (pc' := 116) (L' := [(6, .inl (m145.1 68 0 ((7 * ((6 * f) + x)).toNat))), (5, .inl ((6 * f) + x)), (0, .inr (.inr (.inl (some (34, 0))))), (1, .inl f), (2, .inl x), (3, .inl y), (4, .inl b)]) (st' := [.inl y]) (m' := m154) (o := none) rfl trivial ?_
                refine ww_if (t := 124) rfl rfl (by omega) (fun (h156 : 0 ≤ y) => ?_) (fun (h156 : ¬ (0 ≤ y)) => ?_)
                · show wW (zK sc) zM198 124 [(6, .inl (m145.1 68 0 ((7 * ((6 * f) + x)).toNat))), (5, .inl ((6 * f) + x)), (0, .inr (.inr (.inl (some (34, 0))))), (1, .inl f), (2, .inl x), (3, .inl y), (4, .inl b)] [] _ _ _
                  refine ww_go 1 (pc' := 126) (L' := [(6, .inl (m145.1 68 0 ((7 * ((6 * f) + x)).toNat))), (5, .inl ((6 * f) + x)), (0, .inr (.inr (.inl (some (34, 0))))), (1, .inl f), (2, .inl x), (3, .inl y), (4, .inl b)]) (st' := [.inl b]) (m' := m154) (o := none) rfl trivial ?_
                  refine ww_if (t := 144) rfl rfl (by omega) (fun (h157 : b = 0) => ?_) (fun (h157 : ¬ (b = 0)) => absurd (show b = 0 from by omega) h157)
                  show wW (zK sc) zM198 144 [(6, .inl (m145.1 68 0 ((7 * ((6 * f) + x)).toNat))), (5, .inl ((6 * f) + x)), (0, .inr (.inr (.inl (some (34, 0))))), (1, .inl f), (2, .inl x), (3, .inl y), (4, .inl b)] [] _ _ _
                  have b158 := zRN hGm154 ((((7 * ((6 * f) + x)) + 1) + y).toNat)
                  refine ww_go 10 (pc' := 158) (L' := [(6, .inl (m145.1 68 0 ((7 * ((6 * f) + x)).toNat))), (5, .inl ((6 * f) + x)), (0, .inr (.inr (.inl (some (34, 0))))), (1, .inl f), (2, .inl x), (3, .inl y), (4, .inl b)]) (st' := [.inl (m154.1 68 0 ((((7 * ((6 * f) + x)) + 1) + y).toNat))]) (m' := m154) (o := some ((0 < 1) ∧ (0 < 1 ∧ 0 ≤ ((7 * ((6 * f) + x)) + 1) + y ∧ ((7 * ((6 * f) + x)) + 1) + y < ((84 : Nat) : Int)))) rfl (show (0 < 1) ∧ (0 < 1 ∧ 0 ≤ ((7 * ((6 * f) + x)) + 1) + y ∧ ((7 * ((6 * f) + x)) + 1) + y < ((84 : Nat) : Int)) from by omega) ?_
                  exact ww_rI rfl rfl ⟨_, rfl, rfl, zB_mono hGm154 (by omega), hFm154, by trivial⟩
                · show wW (zK sc) zM198 119 [(6, .inl (m145.1 68 0 ((7 * ((6 * f) + x)).toNat))), (5, .inl ((6 * f) + x)), (0, .inr (.inr (.inl (some (34, 0))))), (1, .inl f), (2, .inl x), (3, .inl y), (4, .inl b)] [] _ _ _
                  refine ww_go 2 (pc' := 158) (L' := [(6, .inl (m145.1 68 0 ((7 * ((6 * f) + x)).toNat))), (5, .inl ((6 * f) + x)), (0, .inr (.inr (.inl (some (34, 0))))), (1, .inl f), (2, .inl x), (3, .inl y), (4, .inl b)]) (st' := [.inl (m145.1 68 0 ((7 * ((6 * f) + x)).toNat))]) (m' := m154) (o := none) rfl trivial ?_
                  exact ww_rI rfl rfl ⟨_, rfl, rfl, zB_mono hGm154 (by omega), hFm154, by trivial⟩
              · show wW (zK sc) zM198 113 [(6, .inl (m145.1 68 0 ((7 * ((6 * f) + x)).toNat))), (5, .inl ((6 * f) + x)), (0, .inr (.inr (.inl (some (34, 0))))), (1, .inl f), (2, .inl x), (3, .inl y), (4, .inl b)] [] _ _ _
                refine ww_go 1 (pc' := 114) (L' := [(6, .inl (m145.1 68 0 ((7 * ((6 * f) + x)).toNat))), (5, .inl ((6 * f) + x)), (0, .inr (.inr (.inl (some (34, 0))))), (1, .inl f), (2, .inl x), (3, .inl y), (4, .inl b)]) (st' := [.inl 0]) (m' := m154) (o := none) rfl trivial ?_
                exact ww_rI rfl rfl ⟨_, rfl, rfl, zB_mono hGm154 (by omega), hFm154, by trivial⟩
            · show wW (zK sc) zM198 101 [(6, .inl (m145.1 68 0 ((7 * ((6 * f) + x)).toNat))), (5, .inl ((6 * f) + x)), (0, .inr (.inr (.inl (some (34, 0))))), (1, .inl f), (2, .inl x), (3, .inl y), (4, .inl b)] [.inr (.inr (.inl (some (34, 0))))] _ _ _
              refine ww_go 3 (pc' := 107) (L' := [(6, .inl (m145.1 68 0 ((7 * ((6 * f) + x)).toNat))), (5, .inl ((6 * f) + x)), (0, .inr (.inr (.inl (some (34, 0))))), (1, .inl f), (2, .inl x), (3, .inl y), (4, .inl b)]) (st' := [.inl 2, .inl 1, .inr (.inr (.inl (some (34, 0))))]) (m' := m145) (o := none) rfl trivial ?_
              refine ww_call (vs := [.inr (.inr (.inl (some (34, 0)))), .inl 1, .inl 2]) (r := []) (p := 0 < 1) rfl rfl rfl rfl (show 0 < 1 from by omega) (zs196 (c := c) (by omega) 1 2 hGm145 (by omega)) ?_
              rintro _ _ m161 ⟨r159, rfl, rfl, hGm161, hEm161, hr160⟩
              have hFm161 : zfr (fun k i j => (k = 34 ∧ j = 0)) m0 m161 := zfr_tr hFm145 hEm161 (fun k i j z => z)
              show wW (zK sc) zM198 110 [(6, .inl (m145.1 68 0 ((7 * ((6 * f) + x)).toNat))), (5, .inl ((6 * f) + x)), (0, .inr (.inr (.inl (some (34, 0))))), (1, .inl f), (2, .inl x), (3, .inl y), (4, .inl b)] [.inl r159] _ _ _
              refine ww_if (t := 115) rfl rfl (by omega) (fun (h162 : r159 = 0) => ?_) (fun (h162 : ¬ (r159 = 0)) => ?_)
              · show wW (zK sc) zM198 115 [(6, .inl (m145.1 68 0 ((7 * ((6 * f) + x)).toNat))), (5, .inl ((6 * f) + x)), (0, .inr (.inr (.inl (some (34, 0))))), (1, .inl f), (2, .inl x), (3, .inl y), (4, .inl b)] [] _ _ _
                refine ww_go 1 (pc' := 116) (L' := [(6, .inl (m145.1 68 0 ((7 * ((6 * f) + x)).toNat))), (5, .inl ((6 * f) + x)), (0, .inr (.inr (.inl (some (34, 0))))), (1, .inl f), (2, .inl x), (3, .inl y), (4, .inl b)]) (st' := [.inl y]) (m' := m161) (o := none) rfl trivial ?_
                refine ww_if (t := 124) rfl rfl (by omega) (fun (h163 : 0 ≤ y) => ?_) (fun (h163 : ¬ (0 ≤ y)) => ?_)
                · show wW (zK sc) zM198 124 [(6, .inl (m145.1 68 0 ((7 * ((6 * f) + x)).toNat))), (5, .inl ((6 * f) + x)), (0, .inr (.inr (.inl (some (34, 0))))), (1, .inl f), (2, .inl x), (3, .inl y), (4, .inl b)] [] _ _ _
                  refine ww_go 1 (pc' := 126) (L' := [(6, .inl (m145.1 68 0 ((7 * ((6 * f) + x)).toNat))), (5, .inl ((6 * f) + x)), (0, .inr (.inr (.inl (some (34, 0))))), (1, .inl f), (2, .inl x), (3, .inl y), (4, .inl b)]) (st' := [.inl b]) (m' := m161) (o := none) rfl trivial ?_
                  refine ww_if (t := 144) rfl rfl (by omega) (fun (h164 : b = 0) => ?_) (fun (h164 : ¬ (b = 0)) => absurd (show b = 0 from by omega) h164)
                  show wW (zK sc) zM198 144 [(6, .inl (m145.1 68 0 ((7 * ((6 * f) + x)).toNat))), (5, .inl ((6 * f) + x)), (0, .inr (.inr (.inl (some (34, 0))))), (1, .inl f), (2, .inl x), (3, .inl y), (4, .inl b)] [] _ _ _
                  have b165 := zRN hGm161 ((((7 * ((6 * f) + x)) + 1) + y).toNat)
                  refine ww_go 10 (pc' := 158) (L' := [(6, .inl (m145.1 68 0 ((7 * ((6 * f) + x)).toNat))), (5, .inl ((6 * f) + x)), (0, .inr (.inr (.inl (some (34, 0))))), (1, .inl f), (2, .inl x), (3, .inl y), (4, .inl b)]) (st' := [.inl (m161.1 68 0 ((((7 * ((6 * f) + x)) + 1) + y).toNat))]) (m' := m161) (o := some ((0 < 1) ∧ (0 < 1 ∧ 0 ≤ ((7 * ((6 * f) + x)) + 1) + y ∧ ((7 * ((6 * f) + x)) + 1) + y < ((84 : Nat) : Int)))) rfl (show (0 < 1) ∧ (0 < 1 ∧ 0 ≤ ((7 * ((6 * f) + x)) + 1) + y ∧ ((7 * ((6 * f) + x)) + 1) + y < ((84 : Nat) : Int)) from by omega) ?_
                  exact ww_rI rfl rfl ⟨_, rfl, rfl, zB_mono hGm161 (by omega), hFm161, by trivial⟩
                · show wW (zK sc) zM198 119 [(6, .inl (m145.1 68 0 ((7 * ((6 * f) + x)).toNat))), (5, .inl ((6 * f) + x)), (0, .inr (.inr (.inl (some (34, 0))))), (1, .inl f), (2, .inl x), (3, .inl y), (4, .inl b)] [] _ _ _
                  refine ww_go 2 (pc' := 158) (L' := [(6, .inl (m145.1 68 0 ((7 * ((6 * f) + x)).toNat))), (5, .inl ((6 * f) + x)), (0, .inr (.inr (.inl (some (34, 0))))), (1, .inl f), (2, .inl x), (3, .inl y), (4, .inl b)]) (st' := [.inl (m145.1 68 0 ((7 * ((6 * f) + x)).toNat))]) (m' := m161) (o := none) rfl trivial ?_
                  exact ww_rI rfl rfl ⟨_, rfl, rfl, zB_mono hGm161 (by omega), hFm161, by trivial⟩
              · show wW (zK sc) zM198 113 [(6, .inl (m145.1 68 0 ((7 * ((6 * f) + x)).toNat))), (5, .inl ((6 * f) + x)), (0, .inr (.inr (.inl (some (34, 0))))), (1, .inl f), (2, .inl x), (3, .inl y), (4, .inl b)] [] _ _ _
                refine ww_go 1 (pc' := 114) (L' := [(6, .inl (m145.1 68 0 ((7 * ((6 * f) + x)).toNat))), (5, .inl ((6 * f) + x)), (0, .inr (.inr (.inl (some (34, 0))))), (1, .inl f), (2, .inl x), (3, .inl y), (4, .inl b)]) (st' := [.inl 0]) (m' := m161) (o := none) rfl trivial ?_
                exact ww_rI rfl rfl ⟨_, rfl, rfl, zB_mono hGm161 (by omega), hFm161, by trivial⟩
          · show wW (zK sc) zM198 66 [(5, .inl ((6 * f) + x)), (0, .inr (.inr (.inl (some (34, 0))))), (1, .inl f), (2, .inl x), (3, .inl y), (4, .inl b)] [] _ _ _
            have b166 : 0 ≤ m145.1 69 0 (((6 * f) + x).toNat) ∧ m145.1 69 0 (((6 * f) + x).toNat) ≤ 96 := hGm145.1 69 _ rfl _ _
            refine ww_go 12 (pc' := 95) (L' := [(6, .inl (m145.1 69 0 (((6 * f) + x).toNat))), (5, .inl ((6 * f) + x)), (0, .inr (.inr (.inl (some (34, 0))))), (1, .inl f), (2, .inl x), (3, .inl y), (4, .inl b)]) (st' := [.inl ((m145.1 69 0 (((6 * f) + x).toNat)) - 1), .inl ((-1)), .inl y, .inr (.inr (.inl (some (34, 0))))]) (m' := m145) (o := some ((0 < 1) ∧ (0 < 1 ∧ 0 ≤ (6 * f) + x ∧ (6 * f) + x < ((12 : Nat) : Int)))) rfl (show (0 < 1) ∧ (0 < 1 ∧ 0 ≤ (6 * f) + x ∧ (6 * f) + x < ((12 : Nat) : Int)) from by omega) ?_
            refine ww_call (vs := [.inl y, .inl ((-1)), .inl ((m145.1 69 0 (((6 * f) + x).toNat)) - 1)]) (r := [.inr (.inr (.inl (some (34, 0))))]) (p := True) rfl rfl rfl rfl trivial (zs207 y ((-1)) ((m145.1 69 0 (((6 * f) + x).toNat)) - 1) (by omega)) ?_
            rintro _ _ _ ⟨r167, rfl, rfl, rfl, hr168⟩
            show wW (zK sc) zM198 98 [(6, .inl (m145.1 69 0 (((6 * f) + x).toNat))), (5, .inl ((6 * f) + x)), (0, .inr (.inr (.inl (some (34, 0))))), (1, .inl f), (2, .inl x), (3, .inl y), (4, .inl b)] [.inl r167, .inr (.inr (.inl (some (34, 0))))] _ _ _
            refine ww_if (t := 105) rfl rfl (by omega) (fun (h169 : r167 ≠ 0) => ?_) (fun (h169 : ¬ (r167 ≠ 0)) => ?_)
            · show wW (zK sc) zM198 105 [(6, .inl (m145.1 69 0 (((6 * f) + x).toNat))), (5, .inl ((6 * f) + x)), (0, .inr (.inr (.inl (some (34, 0))))), (1, .inl f), (2, .inl x), (3, .inl y), (4, .inl b)] [.inr (.inr (.inl (some (34, 0))))] _ _ _
              refine ww_go 2 (pc' := 107) (L' := [(6, .inl (m145.1 69 0 (((6 * f) + x).toNat))), (5, .inl ((6 * f) + x)), (0, .inr (.inr (.inl (some (34, 0))))), (1, .inl f), (2, .inl x), (3, .inl y), (4, .inl b)]) (st' := [.inl 2, .inl 0, .inr (.inr (.inl (some (34, 0))))]) (m' := m145) (o := none) rfl trivial ?_
              refine ww_call (vs := [.inr (.inr (.inl (some (34, 0)))), .inl 0, .inl 2]) (r := []) (p := 0 < 1) rfl rfl rfl rfl (show 0 < 1 from by omega) (zs196 (c := c) (by omega) 0 2 hGm145 (by omega)) ?_
              rintro _ _ m172 ⟨r170, rfl, rfl, hGm172, hEm172, hr171⟩
              have hFm172 : zfr (fun k i j => (k = 34 ∧ j = 0)) m0 m172 := zfr_tr hFm145 hEm172 (fun k i j z => z)
              show wW (zK sc) zM198 110 [(6, .inl (m145.1 69 0 (((6 * f) + x).toNat))), (5, .inl ((6 * f) + x)), (0, .inr (.inr (.inl (some (34, 0))))), (1, .inl f), (2, .inl x), (3, .inl y), (4, .inl b)] [.inl r170] _ _ _
              refine ww_if (t := 115) rfl rfl (by omega) (fun (h173 : r170 = 0) => ?_) (fun (h173 : ¬ (r170 = 0)) => ?_)
              · show wW (zK sc) zM198 115 [(6, .inl (m145.1 69 0 (((6 * f) + x).toNat))), (5, .inl ((6 * f) + x)), (0, .inr (.inr (.inl (some (34, 0))))), (1, .inl f), (2, .inl x), (3, .inl y), (4, .inl b)] [] _ _ _
                refine ww_go 1 (pc' := 116) (L' := [(6, .inl (m145.1 69 0 (((6 * f) + x).toNat))), (5, .inl ((6 * f) + x)), (0, .inr (.inr (.inl (some (34, 0))))), (1, .inl f), (2, .inl x), (3, .inl y), (4, .inl b)]) (st' := [.inl y]) (m' := m172) (o := none) rfl trivial ?_
                refine ww_if (t := 124) rfl rfl (by omega) (fun (h174 : 0 ≤ y) => ?_) (fun (h174 : ¬ (0 ≤ y)) => ?_)
                · show wW (zK sc) zM198 124 [(6, .inl (m145.1 69 0 (((6 * f) + x).toNat))), (5, .inl ((6 * f) + x)), (0, .inr (.inr (.inl (some (34, 0))))), (1, .inl f), (2, .inl x), (3, .inl y), (4, .inl b)] [] _ _ _
                  refine ww_go 1 (pc' := 126) (L' := [(6, .inl (m145.1 69 0 (((6 * f) + x).toNat))), (5, .inl ((6 * f) + x)), (0, .inr (.inr (.inl (some (34, 0))))), (1, .inl f), (2, .inl x), (3, .inl y), (4, .inl b)]) (st' := [.inl b]) (m' := m172) (o := none) rfl trivial ?_
                  refine ww_if (t := 144) rfl rfl (by omega) (fun (h175 : b = 0) => absurd h175 (by omega)) (fun (h175 : ¬ (b = 0)) => ?_)
                  show wW (zK sc) zM198 129 [(6, .inl (m145.1 69 0 (((6 * f) + x).toNat))), (5, .inl ((6 * f) + x)), (0, .inr (.inr (.inl (some (34, 0))))), (1, .inl f), (2, .inl x), (3, .inl y), (4, .inl b)] [] _ _ _
                  have b176 : 0 ≤ m172.1 70 0 (((96 * ((6 * f) + x)) + y).toNat) ∧ m172.1 70 0 (((96 * ((6 * f) + x)) + y).toNat) ≤ 255 := hGm172.1 70 _ rfl _ _
                  refine ww_go 9 (pc' := 158) (L' := [(6, .inl (m145.1 69 0 (((6 * f) + x).toNat))), (5, .inl ((6 * f) + x)), (0, .inr (.inr (.inl (some (34, 0))))), (1, .inl f), (2, .inl x), (3, .inl y), (4, .inl b)]) (st' := [.inl (m172.1 70 0 (((96 * ((6 * f) + x)) + y).toNat))]) (m' := m172) (o := some ((0 < 1) ∧ (0 < 1 ∧ 0 ≤ (96 * ((6 * f) + x)) + y ∧ (96 * ((6 * f) + x)) + y < ((1152 : Nat) : Int)))) rfl (show (0 < 1) ∧ (0 < 1 ∧ 0 ≤ (96 * ((6 * f) + x)) + y ∧ (96 * ((6 * f) + x)) + y < ((1152 : Nat) : Int)) from by omega) ?_
                  exact ww_rI rfl rfl ⟨_, rfl, rfl, zB_mono hGm172 (by omega), hFm172, by trivial⟩
                · show wW (zK sc) zM198 119 [(6, .inl (m145.1 69 0 (((6 * f) + x).toNat))), (5, .inl ((6 * f) + x)), (0, .inr (.inr (.inl (some (34, 0))))), (1, .inl f), (2, .inl x), (3, .inl y), (4, .inl b)] [] _ _ _
                  refine ww_go 2 (pc' := 158) (L' := [(6, .inl (m145.1 69 0 (((6 * f) + x).toNat))), (5, .inl ((6 * f) + x)), (0, .inr (.inr (.inl (some (34, 0))))), (1, .inl f), (2, .inl x), (3, .inl y), (4, .inl b)]) (st' := [.inl (m145.1 69 0 (((6 * f) + x).toNat))]) (m' := m172) (o := none) rfl trivial ?_
                  exact ww_rI rfl rfl ⟨_, rfl, rfl, zB_mono hGm172 (by omega), hFm172, by trivial⟩
              · show wW (zK sc) zM198 113 [(6, .inl (m145.1 69 0 (((6 * f) + x).toNat))), (5, .inl ((6 * f) + x)), (0, .inr (.inr (.inl (some (34, 0))))), (1, .inl f), (2, .inl x), (3, .inl y), (4, .inl b)] [] _ _ _
                refine ww_go 1 (pc' := 114) (L' := [(6, .inl (m145.1 69 0 (((6 * f) + x).toNat))), (5, .inl ((6 * f) + x)), (0, .inr (.inr (.inl (some (34, 0))))), (1, .inl f), (2, .inl x), (3, .inl y), (4, .inl b)]) (st' := [.inl 0]) (m' := m172) (o := none) rfl trivial ?_
                exact ww_rI rfl rfl ⟨_, rfl, rfl, zB_mono hGm172 (by omega), hFm172, by trivial⟩
            · show wW (zK sc) zM198 101 [(6, .inl (m145.1 69 0 (((6 * f) + x).toNat))), (5, .inl ((6 * f) + x)), (0, .inr (.inr (.inl (some (34, 0))))), (1, .inl f), (2, .inl x), (3, .inl y), (4, .inl b)] [.inr (.inr (.inl (some (34, 0))))] _ _ _
              refine ww_go 3 (pc' := 107) (L' := [(6, .inl (m145.1 69 0 (((6 * f) + x).toNat))), (5, .inl ((6 * f) + x)), (0, .inr (.inr (.inl (some (34, 0))))), (1, .inl f), (2, .inl x), (3, .inl y), (4, .inl b)]) (st' := [.inl 2, .inl 1, .inr (.inr (.inl (some (34, 0))))]) (m' := m145) (o := none) rfl trivial ?_
              refine ww_call (vs := [.inr (.inr (.inl (some (34, 0)))), .inl 1, .inl 2]) (r := []) (p := 0 < 1) rfl rfl rfl rfl (show 0 < 1 from by omega) (zs196 (c := c) (by omega) 1 2 hGm145 (by omega)) ?_
              rintro _ _ m179 ⟨r177, rfl, rfl, hGm179, hEm179, hr178⟩
              have hFm179 : zfr (fun k i j => (k = 34 ∧ j = 0)) m0 m179 := zfr_tr hFm145 hEm179 (fun k i j z => z)
              show wW (zK sc) zM198 110 [(6, .inl (m145.1 69 0 (((6 * f) + x).toNat))), (5, .inl ((6 * f) + x)), (0, .inr (.inr (.inl (some (34, 0))))), (1, .inl f), (2, .inl x), (3, .inl y), (4, .inl b)] [.inl r177] _ _ _
              refine ww_if (t := 115) rfl rfl (by omega) (fun (h180 : r177 = 0) => ?_) (fun (h180 : ¬ (r177 = 0)) => ?_)
              · show wW (zK sc) zM198 115 [(6, .inl (m145.1 69 0 (((6 * f) + x).toNat))), (5, .inl ((6 * f) + x)), (0, .inr (.inr (.inl (some (34, 0))))), (1, .inl f), (2, .inl x), (3, .inl y), (4, .inl b)] [] _ _ _
                refine ww_go 1 (pc' := 116) (L' := [(6, .inl (m145.1 69 0 (((6 * f) + x).toNat))), (5, .inl ((6 * f) + x)), (0, .inr (.inr (.inl (some (34, 0))))), (1, .inl f), (2, .inl x), (3, .inl y), (4, .inl b)]) (st' := [.inl y]) (m' := m179) (o := none) rfl trivial ?_
                refine ww_if (t := 124) rfl rfl (by omega) (fun (h181 : 0 ≤ y) => ?_) (fun (h181 : ¬ (0 ≤ y)) => ?_)
                · show wW (zK sc) zM198 124 [(6, .inl (m145.1 69 0 (((6 * f) + x).toNat))), (5, .inl ((6 * f) + x)), (0, .inr (.inr (.inl (some (34, 0))))), (1, .inl f), (2, .inl x), (3, .inl y), (4, .inl b)] [] _ _ _
                  refine ww_go 1 (pc' := 126) (L' := [(6, .inl (m145.1 69 0 (((6 * f) + x).toNat))), (5, .inl ((6 * f) + x)), (0, .inr (.inr (.inl (some (34, 0))))), (1, .inl f), (2, .inl x), (3, .inl y), (4, .inl b)]) (st' := [.inl b]) (m' := m179) (o := none) rfl trivial ?_
                  refine ww_if (t := 144) rfl rfl (by omega) (fun (h182 : b = 0) => absurd h182 (by omega)) (fun (h182 : ¬ (b = 0)) => ?_)
                  show wW (zK sc) zM198 129 [(6, .inl (m145.1 69 0 (((6 * f) + x).toNat))), (5, .inl ((6 * f) + x)), (0, .inr (.inr (.inl (some (34, 0))))), (1, .inl f), (2, .inl x), (3, .inl y), (4, .inl b)] [] _ _ _
                  have b183 : 0 ≤ m179.1 70 0 (((96 * ((6 * f) + x)) + y).toNat) ∧ m179.1 70 0 (((96 * ((6 * f) + x)) + y).toNat) ≤ 255 := hGm179.1 70 _ rfl _ _
                  refine ww_go 9 (pc' := 158) (L' := [(6, .inl (m145.1 69 0 (((6 * f) + x).toNat))), (5, .inl ((6 * f) + x)), (0, .inr (.inr (.inl (some (34, 0))))), (1, .inl f), (2, .inl x), (3, .inl y), (4, .inl b)]) (st' := [.inl (m179.1 70 0 (((96 * ((6 * f) + x)) + y).toNat))]) (m' := m179) (o := some ((0 < 1) ∧ (0 < 1 ∧ 0 ≤ (96 * ((6 * f) + x)) + y ∧ (96 * ((6 * f) + x)) + y < ((1152 : Nat) : Int)))) rfl (show (0 < 1) ∧ (0 < 1 ∧ 0 ≤ (96 * ((6 * f) + x)) + y ∧ (96 * ((6 * f) + x)) + y < ((1152 : Nat) : Int)) from by omega) ?_
                  exact ww_rI rfl rfl ⟨_, rfl, rfl, zB_mono hGm179 (by omega), hFm179, by trivial⟩
                · show wW (zK sc) zM198 119 [(6, .inl (m145.1 69 0 (((6 * f) + x).toNat))), (5, .inl ((6 * f) + x)), (0, .inr (.inr (.inl (some (34, 0))))), (1, .inl f), (2, .inl x), (3, .inl y), (4, .inl b)] [] _ _ _
                  refine ww_go 2 (pc' := 158) (L' := [(6, .inl (m145.1 69 0 (((6 * f) + x).toNat))), (5, .inl ((6 * f) + x)), (0, .inr (.inr (.inl (some (34, 0))))), (1, .inl f), (2, .inl x), (3, .inl y), (4, .inl b)]) (st' := [.inl (m145.1 69 0 (((6 * f) + x).toNat))]) (m' := m179) (o := none) rfl trivial ?_
                  exact ww_rI rfl rfl ⟨_, rfl, rfl, zB_mono hGm179 (by omega), hFm179, by trivial⟩
              · show wW (zK sc) zM198 113 [(6, .inl (m145.1 69 0 (((6 * f) + x).toNat))), (5, .inl ((6 * f) + x)), (0, .inr (.inr (.inl (some (34, 0))))), (1, .inl f), (2, .inl x), (3, .inl y), (4, .inl b)] [] _ _ _
                refine ww_go 1 (pc' := 114) (L' := [(6, .inl (m145.1 69 0 (((6 * f) + x).toNat))), (5, .inl ((6 * f) + x)), (0, .inr (.inr (.inl (some (34, 0))))), (1, .inl f), (2, .inl x), (3, .inl y), (4, .inl b)]) (st' := [.inl 0]) (m' := m179) (o := none) rfl trivial ?_
                exact ww_rI rfl rfl ⟨_, rfl, rfl, zB_mono hGm179 (by omega), hFm179, by trivial⟩
        · show wW (zK sc) zM198 51 [(0, .inr (.inr (.inl (some (34, 0))))), (1, .inl f), (2, .inl x), (3, .inl y), (4, .inl b)] [] _ _ _
          refine ww_go 1 (pc' := 52) (L' := [(0, .inr (.inr (.inl (some (34, 0))))), (1, .inl f), (2, .inl x), (3, .inl y), (4, .inl b)]) (st' := [.inl 0]) (m' := m145) (o := none) rfl trivial ?_
          exact ww_rI rfl rfl ⟨_, rfl, rfl, zB_mono hGm145 (by omega), hFm145, by trivial⟩
set_option maxRecDepth 8000 in
theorem zs219_l9 {sc : xSc} {n : Nat × Nat} {m : wm} {c : Int} (hc : 0 ≤ c ∧ c ≤ 1000000) (v : Int64) (x : Int) (hG : zB c m) (h0 : 0 ≤ x ∧ x ≤ 1000010) : ∀ (d : Nat), ∀ (w : Int64) (k : Int), (k + 8).toNat = d → (-8 ≤ k ∧ k ≤ 56) →  wW (zK sc) zM219 9 [(0, .inr (.inr (.inl (some (34, 0))))), (1, .inr (.inl v)), (3, .inl x), (4, .inr (.inl w)), (6, .inl k)] [] n m (wr (fun vv n1 m1 => ∃ r : Int64, vv = some (.inr (.inl r)) ∧ n = n1 ∧ m = m1 ∧ True)) := by
  intro d
  induction d using Nat.strongRecOn with
  | ind d ih =>
    intro w k hd hi
    refine ww_go 1 (pc' := 11) (L' := [(0, .inr (.inr (.inl (some (34, 0))))), (1, .inr (.inl v)), (3, .inl x), (4, .inr (.inl w)), (6, .inl k)]) (st' := [.inl k]) (m' := m) (o := none) rfl trivial ?_
    refine ww_if (t := 36) rfl rfl (by omega) (fun (h1 : k < 0) => ?_) (fun (h1 : ¬ (k < 0)) => ?_)
    · show wW (zK sc) zM219 36 [(0, .inr (.inr (.inl (some (34, 0))))), (1, .inr (.inl v)), (3, .inl x), (4, .inr (.inl w)), (6, .inl k)] [] _ _ _
      have t2 : (0 ≤ x → x.tmod 30 = x % 30) ∧ (x < 0 → x.tmod 30 = -((-x) % 30)) := ⟨fun z => Int.tmod_eq_emod_of_nonneg z, fun z => wtmod_neg z⟩
      have b3 : 0 ≤ m.1 71 0 ((4 * (x.tmod 30)).toNat) ∧ m.1 71 0 ((4 * (x.tmod 30)).toNat) ≤ 65535 := hG.1 71 _ rfl _ _
      refine ww_go 11 (pc' := 53) (L' := [(6, .inl (4 * (x.tmod 30))), (0, .inr (.inr (.inl (some (34, 0))))), (1, .inr (.inl v)), (3, .inl x), (4, .inr (.inl w))]) (st' := [.inl (m.1 71 0 ((4 * (x.tmod 30)).toNat)), .inr (.inl w)]) (m' := m) (o := some ((-2147483648 ≤ x ∧ x ≤ 2147483647 ∧ 0 < (30 : Int) ∧ (30 : Int) ≤ 2147483647) ∧ (0 < 1) ∧ (0 < 1 ∧ 0 ≤ 4 * (x.tmod 30) ∧ 4 * (x.tmod 30) < ((120 : Nat) : Int)))) rfl (show (-2147483648 ≤ x ∧ x ≤ 2147483647 ∧ 0 < (30 : Int) ∧ (30 : Int) ≤ 2147483647) ∧ (0 < 1) ∧ (0 < 1 ∧ 0 ≤ 4 * (x.tmod 30) ∧ 4 * (x.tmod 30) < ((120 : Nat) : Int)) from by omega) ?_
      refine ww_call (vs := [.inr (.inl w), .inl (m.1 71 0 ((4 * (x.tmod 30)).toNat))]) (r := []) (p := True) rfl rfl rfl rfl trivial (zs223 w (m.1 71 0 ((4 * (x.tmod 30)).toNat))) ?_
      rintro _ _ _ ⟨r4, rfl, rfl, rfl, hr5⟩
      show wW (zK sc) zM219 56 [(6, .inl (4 * (x.tmod 30))), (0, .inr (.inr (.inl (some (34, 0))))), (1, .inr (.inl v)), (3, .inl x), (4, .inr (.inl w))] [.inr (.inl r4)] _ _ _
      have b6 : 0 ≤ m.1 71 0 (((4 * (x.tmod 30)) + 1).toNat) ∧ m.1 71 0 (((4 * (x.tmod 30)) + 1).toNat) ≤ 65535 := hG.1 71 _ rfl _ _
      have t7 := wshr_rg (m.1 71 0 (((4 * (x.tmod 30)) + 1).toNat)) 8
      have t8 := wshr_k8 (X := m.1 71 0 (((4 * (x.tmod 30)) + 1).toNat))
      refine ww_go 10 (pc' := 72) (L' := [(4, .inr (.inl r4)), (6, .inl (4 * (x.tmod 30))), (0, .inr (.inr (.inl (some (34, 0))))), (1, .inr (.inl v)), (3, .inl x)]) (st' := [.inl (wshr (m.1 71 0 (((4 * (x.tmod 30)) + 1).toNat)) 8), .inr (.inl r4)]) (m' := m) (o := some ((0 < 1) ∧ (0 < 1 ∧ 0 ≤ (4 * (x.tmod 30)) + 1 ∧ (4 * (x.tmod 30)) + 1 < ((120 : Nat) : Int)))) rfl (show (0 < 1) ∧ (0 < 1 ∧ 0 ≤ (4 * (x.tmod 30)) + 1 ∧ (4 * (x.tmod 30)) + 1 < ((120 : Nat) : Int)) from by omega) ?_
      refine ww_call (vs := [.inr (.inl r4), .inl (wshr (m.1 71 0 (((4 * (x.tmod 30)) + 1).toNat)) 8)]) (r := []) (p := True) rfl rfl rfl rfl trivial (zs223 r4 (wshr (m.1 71 0 (((4 * (x.tmod 30)) + 1).toNat)) 8)) ?_
      rintro _ _ _ ⟨r9, rfl, rfl, rfl, hr10⟩
      show wW (zK sc) zM219 75 [(4, .inr (.inl r4)), (6, .inl (4 * (x.tmod 30))), (0, .inr (.inr (.inl (some (34, 0))))), (1, .inr (.inl v)), (3, .inl x)] [.inr (.inl r9)] _ _ _
      have b11 : 0 ≤ m.1 71 0 (((4 * (x.tmod 30)) + 1).toNat) ∧ m.1 71 0 (((4 * (x.tmod 30)) + 1).toNat) ≤ 65535 := hG.1 71 _ rfl _ _
      have t12 := wand_rg (m.1 71 0 (((4 * (x.tmod 30)) + 1).toNat)) 255
      have t13 := wand_m255 (m.1 71 0 (((4 * (x.tmod 30)) + 1).toNat))
      refine ww_go 10 (pc' := 92) (L' := [(4, .inr (.inl r9)), (6, .inl (4 * (x.tmod 30))), (0, .inr (.inr (.inl (some (34, 0))))), (1, .inr (.inl v)), (3, .inl x)]) (st' := [.inl (wand (m.1 71 0 (((4 * (x.tmod 30)) + 1).toNat)) 255), .inr (.inl r9)]) (m' := m) (o := some ((0 < 1) ∧ (0 < 1 ∧ 0 ≤ (4 * (x.tmod 30)) + 1 ∧ (4 * (x.tmod 30)) + 1 < ((120 : Nat) : Int)))) rfl (show (0 < 1) ∧ (0 < 1 ∧ 0 ≤ (4 * (x.tmod 30)) + 1 ∧ (4 * (x.tmod 30)) + 1 < ((120 : Nat) : Int)) from by omega) ?_
      refine ww_call (vs := [.inr (.inl r9), .inl (wand (m.1 71 0 (((4 * (x.tmod 30)) + 1).toNat)) 255)]) (r := []) (p := True) rfl rfl rfl rfl trivial (zs223 r9 (wand (m.1 71 0 (((4 * (x.tmod 30)) + 1).toNat)) 255)) ?_
      rintro _ _ _ ⟨r14, rfl, rfl, rfl, hr15⟩
      show wW (zK sc) zM219 95 [(4, .inr (.inl r9)), (6, .inl (4 * (x.tmod 30))), (0, .inr (.inr (.inl (some (34, 0))))), (1, .inr (.inl v)), (3, .inl x)] [.inr (.inl r14)] _ _ _
      have b16 : 0 ≤ m.1 71 0 (((4 * (x.tmod 30)) + 2).toNat) ∧ m.1 71 0 (((4 * (x.tmod 30)) + 2).toNat) ≤ 65535 := hG.1 71 _ rfl _ _
      refine ww_go 8 (pc' := 108) (L' := [(4, .inr (.inl r14)), (6, .inl (4 * (x.tmod 30))), (0, .inr (.inr (.inl (some (34, 0))))), (1, .inr (.inl v)), (3, .inl x)]) (st' := [.inl (m.1 71 0 (((4 * (x.tmod 30)) + 2).toNat)), .inr (.inl r14)]) (m' := m) (o := some ((0 < 1) ∧ (0 < 1 ∧ 0 ≤ (4 * (x.tmod 30)) + 2 ∧ (4 * (x.tmod 30)) + 2 < ((120 : Nat) : Int)))) rfl (show (0 < 1) ∧ (0 < 1 ∧ 0 ≤ (4 * (x.tmod 30)) + 2 ∧ (4 * (x.tmod 30)) + 2 < ((120 : Nat) : Int)) from by omega) ?_
      refine ww_call (vs := [.inr (.inl r14), .inl (m.1 71 0 (((4 * (x.tmod 30)) + 2).toNat))]) (r := []) (p := True) rfl rfl rfl rfl trivial (zs223 r14 (m.1 71 0 (((4 * (x.tmod 30)) + 2).toNat))) ?_
      rintro _ _ _ ⟨r17, rfl, rfl, rfl, hr18⟩
      show wW (zK sc) zM219 111 [(4, .inr (.inl r14)), (6, .inl (4 * (x.tmod 30))), (0, .inr (.inr (.inl (some (34, 0))))), (1, .inr (.inl v)), (3, .inl x)] [.inr (.inl r17)] _ _ _
      have b19 : 0 ≤ m.1 71 0 (((4 * (x.tmod 30)) + 3).toNat) ∧ m.1 71 0 (((4 * (x.tmod 30)) + 3).toNat) ≤ 65535 := hG.1 71 _ rfl _ _
      refine ww_go 8 (pc' := 124) (L' := [(4, .inr (.inl r17)), (6, .inl (4 * (x.tmod 30))), (0, .inr (.inr (.inl (some (34, 0))))), (1, .inr (.inl v)), (3, .inl x)]) (st' := [.inl (m.1 71 0 (((4 * (x.tmod 30)) + 3).toNat)), .inr (.inl r17)]) (m' := m) (o := some ((0 < 1) ∧ (0 < 1 ∧ 0 ≤ (4 * (x.tmod 30)) + 3 ∧ (4 * (x.tmod 30)) + 3 < ((120 : Nat) : Int)))) rfl (show (0 < 1) ∧ (0 < 1 ∧ 0 ≤ (4 * (x.tmod 30)) + 3 ∧ (4 * (x.tmod 30)) + 3 < ((120 : Nat) : Int)) from by omega) ?_
      refine ww_call (vs := [.inr (.inl r17), .inl (m.1 71 0 (((4 * (x.tmod 30)) + 3).toNat))]) (r := []) (p := True) rfl rfl rfl rfl trivial (zs223 r17 (m.1 71 0 (((4 * (x.tmod 30)) + 3).toNat))) ?_
      rintro _ _ _ ⟨r20, rfl, rfl, rfl, hr21⟩
      show wW (zK sc) zM219 127 [(4, .inr (.inl r17)), (6, .inl (4 * (x.tmod 30))), (0, .inr (.inr (.inl (some (34, 0))))), (1, .inr (.inl v)), (3, .inl x)] [.inr (.inl r20)] _ _ _
      exact ww_rL rfl rfl ⟨_, rfl, rfl, rfl, by trivial⟩
    · show wW (zK sc) zM219 14 [(0, .inr (.inr (.inl (some (34, 0))))), (1, .inr (.inl v)), (3, .inl x), (4, .inr (.inl w)), (6, .inl k)] [] _ _ _
      have t22 := wl2i_rg ((v >>> (wi2l k &&& 63)) &&& (Int64.ofInt 255))
      have t23 := wl2i_255 (v >>> (wi2l k &&& 63))
      refine ww_go 7 (pc' := 25) (L' := [(0, .inr (.inr (.inl (some (34, 0))))), (1, .inr (.inl v)), (3, .inl x), (4, .inr (.inl w)), (6, .inl k)]) (st' := [.inl (wl2i ((v >>> (wi2l k &&& 63)) &&& (Int64.ofInt 255))), .inr (.inl w)]) (m' := m) (o := none) rfl trivial ?_
      refine ww_call (vs := [.inr (.inl w), .inl (wl2i ((v >>> (wi2l k &&& 63)) &&& (Int64.ofInt 255)))]) (r := []) (p := True) rfl rfl rfl rfl trivial (zs223 w (wl2i ((v >>> (wi2l k &&& 63)) &&& (Int64.ofInt 255)))) ?_
      rintro _ _ _ ⟨r24, rfl, rfl, rfl, hr25⟩
      show wW (zK sc) zM219 28 [(0, .inr (.inr (.inl (some (34, 0))))), (1, .inr (.inl v)), (3, .inl x), (4, .inr (.inl w)), (6, .inl k)] [.inr (.inl r24)] _ _ _
      refine ww_go 3 (pc' := 9) (L' := [(6, .inl (k + (-8))), (4, .inr (.inl r24)), (0, .inr (.inr (.inl (some (34, 0))))), (1, .inr (.inl v)), (3, .inl x)]) (st' := []) (m' := m) (o := none) rfl trivial ?_
      refine ww_sub (L := [(0, .inr (.inr (.inl (some (34, 0))))), (1, .inr (.inl v)), (3, .inl x), (4, .inr (.inl r24)), (6, .inl (k + (-8)))]) ⟨rfl, rfl, rfl, rfl, rfl, trivial⟩ rfl rfl ?_
      exact (ih _ (by omega)) r24 (k + (-8)) rfl (by omega)
set_option maxRecDepth 8000 in
/-- Mo.linked -/
theorem zs219 {sc : xSc} {n : Nat × Nat} {m : wm} {c : Int} (hc : 0 ≤ c ∧ c ≤ 1000000) (v : Int64) (x : Int) (hG : zB c m) (h0 : 0 ≤ x ∧ x ≤ 1000010) : wX (zK sc) 219 [.inr (.inr (.inl (some (34, 0)))), .inr (.inl v), .inl x] n m (wr (fun vv n1 m1 => ∃ r : Int64, vv = some (.inr (.inl r)) ∧ n = n1 ∧ m = m1 ∧ True)) := by
  refine wX_of (N := zM219) rfl (Nat.le_of_ble_eq_true rfl) ?_
  show wW (zK sc) zM219 0 [(0, .inr (.inr (.inl (some (34, 0))))), (1, .inr (.inl v)), (3, .inl x)] [] n m _
  refine ww_call (vs := []) (r := []) (p := True) rfl rfl rfl rfl trivial (zs181 ) ?_
  rintro _ _ _ ⟨r1, rfl, rfl, rfl, hr2⟩
  show wW (zK sc) zM219 3 [(0, .inr (.inr (.inl (some (34, 0))))), (1, .inr (.inl v)), (3, .inl x)] [.inr (.inl r1)] _ _ _
  refine ww_go 3 (pc' := 9) (L' := [(6, .inl 56), (4, .inr (.inl r1)), (0, .inr (.inr (.inl (some (34, 0))))), (1, .inr (.inl v)), (3, .inl x)]) (st' := []) (m' := m) (o := none) rfl trivial ?_
  refine ww_sub (L := [(0, .inr (.inr (.inl (some (34, 0))))), (1, .inr (.inl v)), (3, .inl x), (4, .inr (.inl r1)), (6, .inl 56)]) ⟨rfl, rfl, rfl, rfl, rfl, trivial⟩ rfl rfl ?_
  exact (zs219_l9 hc v x hG h0 _) r1 56 rfl (by omega)
set_option maxRecDepth 8000 in
/-- Mo.note -/
theorem zs225 {sc : xSc} {n : Nat × Nat} {m0 : wm} {c : Int} (hc : 0 ≤ c ∧ c ≤ 1000000) (a : Int) (b : Int) (x : Int) (y : Int) (hG : zB c m0) (h0 : 0 ≤ a ∧ a ≤ 65535 ∧ 0 ≤ b ∧ b ≤ 65535 ∧ 0 ≤ x ∧ x ≤ 65535 ∧ 0 ≤ y ∧ y ≤ 65535) : wX (zK sc) 225 [.inr (.inr (.inl (some (34, 0)))), .inl a, .inl b, .inl x, .inl y] n m0 (wr (fun vv n1 m1 => vv = none ∧ n = n1 ∧ zB (c + 1) m1 ∧ zfr (fun k i j => (k = 34 ∧ j = 48) ∨ (k = 34 ∧ j = 47) ∨ (k = 71) ∨ (k = 72)) m0 m1 ∧ True)) := by
  refine wX_of (N := zM225) rfl (Nat.le_of_ble_eq_true rfl) ?_
  show wW (zK sc) zM225 0 [(0, .inr (.inr (.inl (some (34, 0))))), (1, .inl a), (2, .inl b), (3, .inl x), (4, .inl y)] [] n m0 _
  have hF : zfr (fun k i j => (k = 34 ∧ j = 48) ∨ (k = 34 ∧ j = 47) ∨ (k = 71) ∨ (k = 72)) m0 m0 := zfr_rf
  have b1 : 0 ≤ m0.1 34 0 47 ∧ m0.1 34 0 47 ≤ c := hG.1 34 _ rfl _ _
  have t2 : (0 ≤ (m0.1 34 0 47) → (m0.1 34 0 47).tmod 30 = (m0.1 34 0 47) % 30) ∧ ((m0.1 34 0 47) < 0 → (m0.1 34 0 47).tmod 30 = -((-((m0.1 34 0 47))) % 30)) := ⟨fun z => Int.tmod_eq_emod_of_nonneg z, fun z => wtmod_neg z⟩
  refine ww_go 7 (pc' := 13) (L' := [(5, .inl ((m0.1 34 0 47).tmod 30)), (0, .inr (.inr (.inl (some (34, 0))))), (1, .inl a), (2, .inl b), (3, .inl x), (4, .inl y)]) (st' := [.inl (m0.1 34 0 47)]) (m' := m0) (o := some ((0 < 1) ∧ (-2147483648 ≤ m0.1 34 0 47 ∧ m0.1 34 0 47 ≤ 2147483647 ∧ 0 < (30 : Int) ∧ (30 : Int) ≤ 2147483647) ∧ (0 < 1))) rfl (show (0 < 1) ∧ (-2147483648 ≤ m0.1 34 0 47 ∧ m0.1 34 0 47 ≤ 2147483647 ∧ 0 < (30 : Int) ∧ (30 : Int) ≤ 2147483647) ∧ (0 < 1) from by omega) ?_
  refine ww_if (t := 33) rfl rfl (by omega) (fun (h3 : m0.1 34 0 47 ≤ 0) => ?_) (fun (h3 : ¬ (m0.1 34 0 47 ≤ 0)) => ?_)
  · show wW (zK sc) zM225 33 [(5, .inl ((m0.1 34 0 47).tmod 30)), (0, .inr (.inr (.inl (some (34, 0))))), (1, .inl a), (2, .inl b), (3, .inl x), (4, .inl y)] [] _ _ _
    have b4 : 0 ≤ m0.1 34 0 47 ∧ m0.1 34 0 47 ≤ c := hG.1 34 _ rfl _ _
    refine ww_go 6 (pc' := 43) (L' := [(6, .inr (.inl (Int64.ofNat 0))), (5, .inl ((m0.1 34 0 47).tmod 30)), (0, .inr (.inr (.inl (some (34, 0))))), (1, .inl a), (2, .inl b), (3, .inl x), (4, .inl y)]) (st' := [.inl 29, .inl (m0.1 34 0 47), .inr (.inr (.inl (some (34, 0))))]) (m' := m0) (o := some ((0 < 1))) rfl (show (0 < 1) from by omega) ?_
    refine ww_ic (t := 56) rfl rfl (by omega) (fun (h5 : m0.1 34 0 47 ≤ 29) => ?_) (fun (h5 : ¬ (m0.1 34 0 47 ≤ 29)) => ?_)
    · show wW (zK sc) zM225 56 [(6, .inr (.inl (Int64.ofNat 0))), (5, .inl ((m0.1 34 0 47).tmod 30)), (0, .inr (.inr (.inl (some (34, 0))))), (1, .inl a), (2, .inl b), (3, .inl x), (4, .inl y)] [.inr (.inr (.inl (some (34, 0))))] _ _ _
      refine ww_go 3 (pc' := 63) (L' := [(6, .inr (.inl (Int64.ofNat 0))), (5, .inl ((m0.1 34 0 47).tmod 30)), (0, .inr (.inr (.inl (some (34, 0))))), (1, .inl a), (2, .inl b), (3, .inl x), (4, .inl y)]) (st' := []) (m' := wuL m0 34 0 48 (m0.2.1 34 0 48)) (o := some ((0 < 1) ∧ (0 < 1))) rfl (show (0 < 1) ∧ (0 < 1) from by omega) ?_
      obtain ⟨m6, hm6⟩ : ∃ zq9 : wm, zq9 = wuL m0 34 0 48 (m0.2.1 34 0 48) := ⟨_, rfl⟩
      rw [← hm6]
      have hGm6 : zB c m6 := by rw [hm6]; exact zB_wL hG
      have hFm6 : zfr (fun k i j => (k = 34 ∧ j = 48) ∨ (k = 34 ∧ j = 47) ∨ (k = 71) ∨ (k = 72)) m0 m6 := by rw [hm6]; exact zfr_wL hF (show (34 = 34 ∧ 48 = 48) ∨ (34 = 34 ∧ 48 = 47) ∨ (34 = 71) ∨ (34 = 72) from Or.inl (⟨rfl, rfl⟩))
      refine ww_go 7 (pc' := 73) (L' := [(6, .inr (.inl (Int64.ofNat 0))), (5, .inl ((m0.1 34 0 47).tmod 30)), (0, .inr (.inr (.inl (some (34, 0))))), (1, .inl a), (2, .inl b), (3, .inl x), (4, .inl y)]) (st' := []) (m' := wuI m6 71 0 ((4 * ((m0.1 34 0 47).tmod 30)).toNat) a) (o := some ((0 < 1) ∧ (0 < 1 ∧ 0 ≤ 4 * ((m0.1 34 0 47).tmod 30) ∧ 4 * ((m0.1 34 0 47).tmod 30) < ((120 : Nat) : Int)))) rfl (show (0 < 1) ∧ (0 < 1 ∧ 0 ≤ 4 * ((m0.1 34 0 47).tmod 30) ∧ 4 * ((m0.1 34 0 47).tmod 30) < ((120 : Nat) : Int)) from by omega) ?_
      obtain ⟨m7, hm7⟩ : ∃ zq9 : wm, zq9 = wuI m6 71 0 ((4 * ((m0.1 34 0 47).tmod 30)).toNat) a := ⟨_, rfl⟩
      rw [← hm7]
      have hGm7 : zB c m7 := by rw [hm7]; exact zB_wI rfl (show 0 ≤ a ∧ a ≤ 65535 from by omega) hGm6
      have hFm7 : zfr (fun k i j => (k = 34 ∧ j = 48) ∨ (k = 34 ∧ j = 47) ∨ (k = 71) ∨ (k = 72)) m0 m7 := by rw [hm7]; exact zfr_wI hFm6 (show (71 = 34 ∧ ((4 * ((m0.1 34 0 47).tmod 30)).toNat) = 48) ∨ (71 = 34 ∧ ((4 * ((m0.1 34 0 47).tmod 30)).toNat) = 47) ∨ (71 = 71) ∨ (71 = 72) from Or.inr (Or.inr (Or.inl rfl)))
      have s8 : m7.1 71 0 ((4 * ((m0.1 34 0 47).tmod 30)).toNat) = a := by rw [hm7]; exact wuI_self
      refine ww_go 9 (pc' := 85) (L' := [(6, .inr (.inl (Int64.ofNat 0))), (5, .inl ((m0.1 34 0 47).tmod 30)), (0, .inr (.inr (.inl (some (34, 0))))), (1, .inl a), (2, .inl b), (3, .inl x), (4, .inl y)]) (st' := []) (m' := wuI m7 71 0 (((4 * ((m0.1 34 0 47).tmod 30)) + 1).toNat) b) (o := some ((0 < 1) ∧ (0 < 1 ∧ 0 ≤ (4 * ((m0.1 34 0 47).tmod 30)) + 1 ∧ (4 * ((m0.1 34 0 47).tmod 30)) + 1 < ((120 : Nat) : Int)))) rfl (show (0 < 1) ∧ (0 < 1 ∧ 0 ≤ (4 * ((m0.1 34 0 47).tmod 30)) + 1 ∧ (4 * ((m0.1 34 0 47).tmod 30)) + 1 < ((120 : Nat) : Int)) from by omega) ?_
      obtain ⟨m9, hm9⟩ : ∃ zq9 : wm, zq9 = wuI m7 71 0 (((4 * ((m0.1 34 0 47).tmod 30)) + 1).toNat) b := ⟨_, rfl⟩
      rw [← hm9]
      have hGm9 : zB c m9 := by rw [hm9]; exact zB_wI rfl (show 0 ≤ b ∧ b ≤ 65535 from by omega) hGm7
      have hFm9 : zfr (fun k i j => (k = 34 ∧ j = 48) ∨ (k = 34 ∧ j = 47) ∨ (k = 71) ∨ (k = 72)) m0 m9 := by rw [hm9]; exact zfr_wI hFm7 (show (71 = 34 ∧ (((4 * ((m0.1 34 0 47).tmod 30)) + 1).toNat) = 48) ∨ (71 = 34 ∧ (((4 * ((m0.1 34 0 47).tmod 30)) + 1).toNat) = 47) ∨ (71 = 71) ∨ (71 = 72) from Or.inr (Or.inr (Or.inl rfl)))
      have s10 : m9.1 71 0 (((4 * ((m0.1 34 0 47).tmod 30)) + 1).toNat) = b := by rw [hm9]; exact wuI_self
      refine ww_go 9 (pc' := 97) (L' := [(6, .inr (.inl (Int64.ofNat 0))), (5, .inl ((m0.1 34 0 47).tmod 30)), (0, .inr (.inr (.inl (some (34, 0))))), (1, .inl a), (2, .inl b), (3, .inl x), (4, .inl y)]) (st' := []) (m' := wuI m9 71 0 (((4 * ((m0.1 34 0 47).tmod 30)) + 2).toNat) x) (o := some ((0 < 1) ∧ (0 < 1 ∧ 0 ≤ (4 * ((m0.1 34 0 47).tmod 30)) + 2 ∧ (4 * ((m0.1 34 0 47).tmod 30)) + 2 < ((120 : Nat) : Int)))) rfl (show (0 < 1) ∧ (0 < 1 ∧ 0 ≤ (4 * ((m0.1 34 0 47).tmod 30)) + 2 ∧ (4 * ((m0.1 34 0 47).tmod 30)) + 2 < ((120 : Nat) : Int)) from by omega) ?_
      obtain ⟨m11, hm11⟩ : ∃ zq9 : wm, zq9 = wuI m9 71 0 (((4 * ((m0.1 34 0 47).tmod 30)) + 2).toNat) x := ⟨_, rfl⟩
      rw [← hm11]
      have hGm11 : zB c m11 := by rw [hm11]; exact zB_wI rfl (show 0 ≤ x ∧ x ≤ 65535 from by omega) hGm9
      have hFm11 : zfr (fun k i j => (k = 34 ∧ j = 48) ∨ (k = 34 ∧ j = 47) ∨ (k = 71) ∨ (k = 72)) m0 m11 := by rw [hm11]; exact zfr_wI hFm9 (show (71 = 34 ∧ (((4 * ((m0.1 34 0 47).tmod 30)) + 2).toNat) = 48) ∨ (71 = 34 ∧ (((4 * ((m0.1 34 0 47).tmod 30)) + 2).toNat) = 47) ∨ (71 = 71) ∨ (71 = 72) from Or.inr (Or.inr (Or.inl rfl)))
      have s12 : m11.1 71 0 (((4 * ((m0.1 34 0 47).tmod 30)) + 2).toNat) = x := by rw [hm11]; exact wuI_self
      refine ww_go 9 (pc' := 110) (L' := [(6, .inr (.inl (Int64.ofNat 0))), (5, .inl ((m0.1 34 0 47).tmod 30)), (0, .inr (.inr (.inl (some (34, 0))))), (1, .inl a), (2, .inl b), (3, .inl x), (4, .inl y)]) (st' := []) (m' := wuI m11 71 0 (((4 * ((m0.1 34 0 47).tmod 30)) + 3).toNat) y) (o := some ((0 < 1) ∧ (0 < 1 ∧ 0 ≤ (4 * ((m0.1 34 0 47).tmod 30)) + 3 ∧ (4 * ((m0.1 34 0 47).tmod 30)) + 3 < ((120 : Nat) : Int)))) rfl (show (0 < 1) ∧ (0 < 1 ∧ 0 ≤ (4 * ((m0.1 34 0 47).tmod 30)) + 3 ∧ (4 * ((m0.1 34 0 47).tmod 30)) + 3 < ((120 : Nat) : Int)) from by omega) ?_
      obtain ⟨m13, hm13⟩ : ∃ zq9 : wm, zq9 = wuI m11 71 0 (((4 * ((m0.1 34 0 47).tmod 30)) + 3).toNat) y := ⟨_, rfl⟩
      rw [← hm13]
      have hGm13 : zB c m13 := by rw [hm13]; exact zB_wI rfl (show 0 ≤ y ∧ y ≤ 65535 from by omega) hGm11
      have hFm13 : zfr (fun k i j => (k = 34 ∧ j = 48) ∨ (k = 34 ∧ j = 47) ∨ (k = 71) ∨ (k = 72)) m0 m13 := by rw [hm13]; exact zfr_wI hFm11 (show (71 = 34 ∧ (((4 * ((m0.1 34 0 47).tmod 30)) + 3).toNat) = 48) ∨ (71 = 34 ∧ (((4 * ((m0.1 34 0 47).tmod 30)) + 3).toNat) = 47) ∨ (71 = 71) ∨ (71 = 72) from Or.inr (Or.inr (Or.inl rfl)))
      have s14 : m13.1 71 0 (((4 * ((m0.1 34 0 47).tmod 30)) + 3).toNat) = y := by rw [hm13]; exact wuI_self
      have b15 : 0 ≤ m13.1 34 0 47 ∧ m13.1 34 0 47 ≤ c := hGm13.1 34 _ rfl _ _
      refine ww_go 7 (pc' := 123) (L' := [(6, .inr (.inl (Int64.ofNat 0))), (5, .inl ((m0.1 34 0 47).tmod 30)), (0, .inr (.inr (.inl (some (34, 0))))), (1, .inl a), (2, .inl b), (3, .inl x), (4, .inl y)]) (st' := [.inl (m13.1 34 0 47), .inr (.inl (Int64.ofNat 0)), .inr (.inr (.inl (some (34, 0)))), .inl ((m0.1 34 0 47).tmod 30), .inr (.inr (.inl (some (72, 0))))]) (m' := m13) (o := some ((0 < 1) ∧ (0 < 1))) rfl (show (0 < 1) ∧ (0 < 1) from by omega) ?_
      refine ww_call (vs := [.inr (.inr (.inl (some (34, 0)))), .inr (.inl (Int64.ofNat 0)), .inl (m13.1 34 0 47)]) (r := [.inl ((m0.1 34 0 47).tmod 30), .inr (.inr (.inl (some (72, 0))))]) (p := 0 < 1) rfl rfl rfl rfl (show 0 < 1 from by omega) (zs219 (c := c) (by omega) (Int64.ofNat 0) (m13.1 34 0 47) hGm13 (by omega)) ?_
      rintro _ _ _ ⟨r16, rfl, rfl, rfl, hr17⟩
      show wW (zK sc) zM225 126 [(6, .inr (.inl (Int64.ofNat 0))), (5, .inl ((m0.1 34 0 47).tmod 30)), (0, .inr (.inr (.inl (some (34, 0))))), (1, .inl a), (2, .inl b), (3, .inl x), (4, .inl y)] [.inr (.inl r16), .inl ((m0.1 34 0 47).tmod 30), .inr (.inr (.inl (some (72, 0))))] _ _ _
      refine ww_go 1 (pc' := 127) (L' := [(6, .inr (.inl (Int64.ofNat 0))), (5, .inl ((m0.1 34 0 47).tmod 30)), (0, .inr (.inr (.inl (some (34, 0))))), (1, .inl a), (2, .inl b), (3, .inl x), (4, .inl y)]) (st' := []) (m' := wuL m13 72 0 (((m0.1 34 0 47).tmod 30).toNat) r16) (o := some ((0 < 1 ∧ 0 ≤ (m0.1 34 0 47).tmod 30 ∧ (m0.1 34 0 47).tmod 30 < ((30 : Nat) : Int)))) rfl (show (0 < 1 ∧ 0 ≤ (m0.1 34 0 47).tmod 30 ∧ (m0.1 34 0 47).tmod 30 < ((30 : Nat) : Int)) from by omega) ?_
      obtain ⟨m18, hm18⟩ : ∃ zq9 : wm, zq9 = wuL m13 72 0 (((m0.1 34 0 47).tmod 30).toNat) r16 := ⟨_, rfl⟩
      rw [← hm18]
      have hGm18 : zB c m18 := by rw [hm18]; exact zB_wL hGm13
      have hFm18 : zfr (fun k i j => (k = 34 ∧ j = 48) ∨ (k = 34 ∧ j = 47) ∨ (k = 71) ∨ (k = 72)) m0 m18 := by rw [hm18]; exact zfr_wL hFm13 (show (72 = 34 ∧ (((m0.1 34 0 47).tmod 30).toNat) = 48) ∨ (72 = 34 ∧ (((m0.1 34 0 47).tmod 30).toNat) = 47) ∨ (72 = 71) ∨ (72 = 72) from Or.inr (Or.inr (Or.inr (rfl))))
      have b19 : 0 ≤ m18.1 34 0 47 ∧ m18.1 34 0 47 ≤ c := hGm18.1 34 _ rfl _ _
      refine ww_go 6 (pc' := 137) (L' := [(6, .inr (.inl (Int64.ofNat 0))), (5, .inl ((m0.1 34 0 47).tmod 30)), (0, .inr (.inr (.inl (some (34, 0))))), (1, .inl a), (2, .inl b), (3, .inl x), (4, .inl y)]) (st' := []) (m' := wuI m18 34 0 47 ((m18.1 34 0 47) + 1)) (o := some ((0 < 1) ∧ (0 < 1))) rfl (show (0 < 1) ∧ (0 < 1) from by omega) ?_
      obtain ⟨m20, hm20⟩ : ∃ zq9 : wm, zq9 = wuI m18 34 0 47 ((m18.1 34 0 47) + 1) := ⟨_, rfl⟩
      rw [← hm20]
      have hXm20 := zB_mono (c' := (c + 1)) hGm18 (by omega)
      have hGm20 : zB (c + 1) m20 := by rw [hm20]; exact zB_wI rfl (show 0 ≤ (m18.1 34 0 47) + 1 ∧ (m18.1 34 0 47) + 1 ≤ (c + 1) from by omega) hXm20
      have hFm20 : zfr (fun k i j => (k = 34 ∧ j = 48) ∨ (k = 34 ∧ j = 47) ∨ (k = 71) ∨ (k = 72)) m0 m20 := by rw [hm20]; exact zfr_wI hFm18 (show (34 = 34 ∧ 47 = 48) ∨ (34 = 34 ∧ 47 = 47) ∨ (34 = 71) ∨ (34 = 72) from Or.inr (Or.inl (⟨rfl, rfl⟩)))
      have s21 : m20.1 34 0 47 = (m18.1 34 0 47) + 1 := by rw [hm20]; exact wuI_self
      exact ww_rV rfl rfl ⟨rfl, rfl, zB_mono hGm20 (by omega), hFm20, by trivial⟩
    · show wW (zK sc) zM225 46 [(6, .inr (.inl (Int64.ofNat 0))), (5, .inl ((m0.1 34 0 47).tmod 30)), (0, .inr (.inr (.inl (some (34, 0))))), (1, .inl a), (2, .inl b), (3, .inl x), (4, .inl y)] [.inr (.inr (.inl (some (34, 0))))] _ _ _
      refine ww_go 6 (pc' := 63) (L' := [(6, .inr (.inl (Int64.ofNat 0))), (5, .inl ((m0.1 34 0 47).tmod 30)), (0, .inr (.inr (.inl (some (34, 0))))), (1, .inl a), (2, .inl b), (3, .inl x), (4, .inl y)]) (st' := []) (m' := wuL m0 34 0 48 (m0.2.1 72 0 (((m0.1 34 0 47).tmod 30).toNat))) (o := some ((0 < 1) ∧ (0 < 1 ∧ 0 ≤ (m0.1 34 0 47).tmod 30 ∧ (m0.1 34 0 47).tmod 30 < ((30 : Nat) : Int)) ∧ (0 < 1))) rfl (show (0 < 1) ∧ (0 < 1 ∧ 0 ≤ (m0.1 34 0 47).tmod 30 ∧ (m0.1 34 0 47).tmod 30 < ((30 : Nat) : Int)) ∧ (0 < 1) from by omega) ?_
      obtain ⟨m22, hm22⟩ : ∃ zq9 : wm, zq9 = wuL m0 34 0 48 (m0.2.1 72 0 (((m0.1 34 0 47).tmod 30).toNat)) := ⟨_, rfl⟩
      rw [← hm22]
      have hGm22 : zB c m22 := by rw [hm22]; exact zB_wL hG
      have hFm22 : zfr (fun k i j => (k = 34 ∧ j = 48) ∨ (k = 34 ∧ j = 47) ∨ (k = 71) ∨ (k = 72)) m0 m22 := by rw [hm22]; exact zfr_wL hF (show (34 = 34 ∧ 48 = 48) ∨ (34 = 34 ∧ 48 = 47) ∨ (34 = 71) ∨ (34 = 72) from Or.inl (⟨rfl, rfl⟩))
      refine ww_go 7 (pc' := 73) (L' := [(6, .inr (.inl (Int64.ofNat 0))), (5, .inl ((m0.1 34 0 47).tmod 30)), (0, .inr (.inr (.inl (some (34, 0))))), (1, .inl a), (2, .inl b), (3, .inl x), (4, .inl y)]) (st' := []) (m' := wuI m22 71 0 ((4 * ((m0.1 34 0 47).tmod 30)).toNat) a) (o := some ((0 < 1) ∧ (0 < 1 ∧ 0 ≤ 4 * ((m0.1 34 0 47).tmod 30) ∧ 4 * ((m0.1 34 0 47).tmod 30) < ((120 : Nat) : Int)))) rfl (show (0 < 1) ∧ (0 < 1 ∧ 0 ≤ 4 * ((m0.1 34 0 47).tmod 30) ∧ 4 * ((m0.1 34 0 47).tmod 30) < ((120 : Nat) : Int)) from by omega) ?_
      obtain ⟨m23, hm23⟩ : ∃ zq9 : wm, zq9 = wuI m22 71 0 ((4 * ((m0.1 34 0 47).tmod 30)).toNat) a := ⟨_, rfl⟩
      rw [← hm23]
      have hGm23 : zB c m23 := by rw [hm23]; exact zB_wI rfl (show 0 ≤ a ∧ a ≤ 65535 from by omega) hGm22
      have hFm23 : zfr (fun k i j => (k = 34 ∧ j = 48) ∨ (k = 34 ∧ j = 47) ∨ (k = 71) ∨ (k = 72)) m0 m23 := by rw [hm23]; exact zfr_wI hFm22 (show (71 = 34 ∧ ((4 * ((m0.1 34 0 47).tmod 30)).toNat) = 48) ∨ (71 = 34 ∧ ((4 * ((m0.1 34 0 47).tmod 30)).toNat) = 47) ∨ (71 = 71) ∨ (71 = 72) from Or.inr (Or.inr (Or.inl rfl)))
      have s24 : m23.1 71 0 ((4 * ((m0.1 34 0 47).tmod 30)).toNat) = a := by rw [hm23]; exact wuI_self
      refine ww_go 9 (pc' := 85) (L' := [(6, .inr (.inl (Int64.ofNat 0))), (5, .inl ((m0.1 34 0 47).tmod 30)), (0, .inr (.inr (.inl (some (34, 0))))), (1, .inl a), (2, .inl b), (3, .inl x), (4, .inl y)]) (st' := []) (m' := wuI m23 71 0 (((4 * ((m0.1 34 0 47).tmod 30)) + 1).toNat) b) (o := some ((0 < 1) ∧ (0 < 1 ∧ 0 ≤ (4 * ((m0.1 34 0 47).tmod 30)) + 1 ∧ (4 * ((m0.1 34 0 47).tmod 30)) + 1 < ((120 : Nat) : Int)))) rfl (show (0 < 1) ∧ (0 < 1 ∧ 0 ≤ (4 * ((m0.1 34 0 47).tmod 30)) + 1 ∧ (4 * ((m0.1 34 0 47).tmod 30)) + 1 < ((120 : Nat) : Int)) from by omega) ?_
      obtain ⟨m25, hm25⟩ : ∃ zq9 : wm, zq9 = wuI m23 71 0 (((4 * ((m0.1 34 0 47).tmod 30)) + 1).toNat) b := ⟨_, rfl⟩
      rw [← hm25]
      have hGm25 : zB c m25 := by rw [hm25]; exact zB_wI rfl (show 0 ≤ b ∧ b ≤ 65535 from by omega) hGm23
      have hFm25 : zfr (fun k i j => (k = 34 ∧ j = 48) ∨ (k = 34 ∧ j = 47) ∨ (k = 71) ∨ (k = 72)) m0 m25 := by rw [hm25]; exact zfr_wI hFm23 (show (71 = 34 ∧ (((4 * ((m0.1 34 0 47).tmod 30)) + 1).toNat) = 48) ∨ (71 = 34 ∧ (((4 * ((m0.1 34 0 47).tmod 30)) + 1).toNat) = 47) ∨ (71 = 71) ∨ (71 = 72) from Or.inr (Or.inr (Or.inl rfl)))
      have s26 : m25.1 71 0 (((4 * ((m0.1 34 0 47).tmod 30)) + 1).toNat) = b := by rw [hm25]; exact wuI_self
      refine ww_go 9 (pc' := 97) (L' := [(6, .inr (.inl (Int64.ofNat 0))), (5, .inl ((m0.1 34 0 47).tmod 30)), (0, .inr (.inr (.inl (some (34, 0))))), (1, .inl a), (2, .inl b), (3, .inl x), (4, .inl y)]) (st' := []) (m' := wuI m25 71 0 (((4 * ((m0.1 34 0 47).tmod 30)) + 2).toNat) x) (o := some ((0 < 1) ∧ (0 < 1 ∧ 0 ≤ (4 * ((m0.1 34 0 47).tmod 30)) + 2 ∧ (4 * ((m0.1 34 0 47).tmod 30)) + 2 < ((120 : Nat) : Int)))) rfl (show (0 < 1) ∧ (0 < 1 ∧ 0 ≤ (4 * ((m0.1 34 0 47).tmod 30)) + 2 ∧ (4 * ((m0.1 34 0 47).tmod 30)) + 2 < ((120 : Nat) : Int)) from by omega) ?_
      obtain ⟨m27, hm27⟩ : ∃ zq9 : wm, zq9 = wuI m25 71 0 (((4 * ((m0.1 34 0 47).tmod 30)) + 2).toNat) x := ⟨_, rfl⟩
      rw [← hm27]
      have hGm27 : zB c m27 := by rw [hm27]; exact zB_wI rfl (show 0 ≤ x ∧ x ≤ 65535 from by omega) hGm25
      have hFm27 : zfr (fun k i j => (k = 34 ∧ j = 48) ∨ (k = 34 ∧ j = 47) ∨ (k = 71) ∨ (k = 72)) m0 m27 := by rw [hm27]; exact zfr_wI hFm25 (show (71 = 34 ∧ (((4 * ((m0.1 34 0 47).tmod 30)) + 2).toNat) = 48) ∨ (71 = 34 ∧ (((4 * ((m0.1 34 0 47).tmod 30)) + 2).toNat) = 47) ∨ (71 = 71) ∨ (71 = 72) from Or.inr (Or.inr (Or.inl rfl)))
      have s28 : m27.1 71 0 (((4 * ((m0.1 34 0 47).tmod 30)) + 2).toNat) = x := by rw [hm27]; exact wuI_self
      refine ww_go 9 (pc' := 110) (L' := [(6, .inr (.inl (Int64.ofNat 0))), (5, .inl ((m0.1 34 0 47).tmod 30)), (0, .inr (.inr (.inl (some (34, 0))))), (1, .inl a), (2, .inl b), (3, .inl x), (4, .inl y)]) (st' := []) (m' := wuI m27 71 0 (((4 * ((m0.1 34 0 47).tmod 30)) + 3).toNat) y) (o := some ((0 < 1) ∧ (0 < 1 ∧ 0 ≤ (4 * ((m0.1 34 0 47).tmod 30)) + 3 ∧ (4 * ((m0.1 34 0 47).tmod 30)) + 3 < ((120 : Nat) : Int)))) rfl (show (0 < 1) ∧ (0 < 1 ∧ 0 ≤ (4 * ((m0.1 34 0 47).tmod 30)) + 3 ∧ (4 * ((m0.1 34 0 47).tmod 30)) + 3 < ((120 : Nat) : Int)) from by omega) ?_
      obtain ⟨m29, hm29⟩ : ∃ zq9 : wm, zq9 = wuI m27 71 0 (((4 * ((m0.1 34 0 47).tmod 30)) + 3).toNat) y := ⟨_, rfl⟩
      rw [← hm29]
      have hGm29 : zB c m29 := by rw [hm29]; exact zB_wI rfl (show 0 ≤ y ∧ y ≤ 65535 from by omega) hGm27
      have hFm29 : zfr (fun k i j => (k = 34 ∧ j = 48) ∨ (k = 34 ∧ j = 47) ∨ (k = 71) ∨ (k = 72)) m0 m29 := by rw [hm29]; exact zfr_wI hFm27 (show (71 = 34 ∧ (((4 * ((m0.1 34 0 47).tmod 30)) + 3).toNat) = 48) ∨ (71 = 34 ∧ (((4 * ((m0.1 34 0 47).tmod 30)) + 3).toNat) = 47) ∨ (71 = 71) ∨ (71 = 72) from Or.inr (Or.inr (Or.inl rfl)))
      have s30 : m29.1 71 0 (((4 * ((m0.1 34 0 47).tmod 30)) + 3).toNat) = y := by rw [hm29]; exact wuI_self
      have b31 : 0 ≤ m29.1 34 0 47 ∧ m29.1 34 0 47 ≤ c := hGm29.1 34 _ rfl _ _
      refine ww_go 7 (pc' := 123) (L' := [(6, .inr (.inl (Int64.ofNat 0))), (5, .inl ((m0.1 34 0 47).tmod 30)), (0, .inr (.inr (.inl (some (34, 0))))), (1, .inl a), (2, .inl b), (3, .inl x), (4, .inl y)]) (st' := [.inl (m29.1 34 0 47), .inr (.inl (Int64.ofNat 0)), .inr (.inr (.inl (some (34, 0)))), .inl ((m0.1 34 0 47).tmod 30), .inr (.inr (.inl (some (72, 0))))]) (m' := m29) (o := some ((0 < 1) ∧ (0 < 1))) rfl (show (0 < 1) ∧ (0 < 1) from by omega) ?_
      refine ww_call (vs := [.inr (.inr (.inl (some (34, 0)))), .inr (.inl (Int64.ofNat 0)), .inl (m29.1 34 0 47)]) (r := [.inl ((m0.1 34 0 47).tmod 30), .inr (.inr (.inl (some (72, 0))))]) (p := 0 < 1) rfl rfl rfl rfl (show 0 < 1 from by omega) (zs219 (c := c) (by omega) (Int64.ofNat 0) (m29.1 34 0 47) hGm29 (by omega)) ?_
      rintro _ _ _ ⟨r32, rfl, rfl, rfl, hr33⟩
      show wW (zK sc) zM225 126 [(6, .inr (.inl (Int64.ofNat 0))), (5, .inl ((m0.1 34 0 47).tmod 30)), (0, .inr (.inr (.inl (some (34, 0))))), (1, .inl a), (2, .inl b), (3, .inl x), (4, .inl y)] [.inr (.inl r32), .inl ((m0.1 34 0 47).tmod 30), .inr (.inr (.inl (some (72, 0))))] _ _ _
      refine ww_go 1 (pc' := 127) (L' := [(6, .inr (.inl (Int64.ofNat 0))), (5, .inl ((m0.1 34 0 47).tmod 30)), (0, .inr (.inr (.inl (some (34, 0))))), (1, .inl a), (2, .inl b), (3, .inl x), (4, .inl y)]) (st' := []) (m' := wuL m29 72 0 (((m0.1 34 0 47).tmod 30).toNat) r32) (o := some ((0 < 1 ∧ 0 ≤ (m0.1 34 0 47).tmod 30 ∧ (m0.1 34 0 47).tmod 30 < ((30 : Nat) : Int)))) rfl (show (0 < 1 ∧ 0 ≤ (m0.1 34 0 47).tmod 30 ∧ (m0.1 34 0 47).tmod 30 < ((30 : Nat) : Int)) from by omega) ?_
      obtain ⟨m34, hm34⟩ : ∃ zq9 : wm, zq9 = wuL m29 72 0 (((m0.1 34 0 47).tmod 30).toNat) r32 := ⟨_, rfl⟩
      rw [← hm34]
      have hGm34 : zB c m34 := by rw [hm34]; exact zB_wL hGm29
      have hFm34 : zfr (fun k i j => (k = 34 ∧ j = 48) ∨ (k = 34 ∧ j = 47) ∨ (k = 71) ∨ (k = 72)) m0 m34 := by rw [hm34]; exact zfr_wL hFm29 (show (72 = 34 ∧ (((m0.1 34 0 47).tmod 30).toNat) = 48) ∨ (72 = 34 ∧ (((m0.1 34 0 47).tmod 30).toNat) = 47) ∨ (72 = 71) ∨ (72 = 72) from Or.inr (Or.inr (Or.inr (rfl))))
      have b35 : 0 ≤ m34.1 34 0 47 ∧ m34.1 34 0 47 ≤ c := hGm34.1 34 _ rfl _ _
      refine ww_go 6 (pc' := 137) (L' := [(6, .inr (.inl (Int64.ofNat 0))), (5, .inl ((m0.1 34 0 47).tmod 30)), (0, .inr (.inr (.inl (some (34, 0))))), (1, .inl a), (2, .inl b), (3, .inl x), (4, .inl y)]) (st' := []) (m' := wuI m34 34 0 47 ((m34.1 34 0 47) + 1)) (o := some ((0 < 1) ∧ (0 < 1))) rfl (show (0 < 1) ∧ (0 < 1) from by omega) ?_
      obtain ⟨m36, hm36⟩ : ∃ zq9 : wm, zq9 = wuI m34 34 0 47 ((m34.1 34 0 47) + 1) := ⟨_, rfl⟩
      rw [← hm36]
      have hXm36 := zB_mono (c' := (c + 1)) hGm34 (by omega)
      have hGm36 : zB (c + 1) m36 := by rw [hm36]; exact zB_wI rfl (show 0 ≤ (m34.1 34 0 47) + 1 ∧ (m34.1 34 0 47) + 1 ≤ (c + 1) from by omega) hXm36
      have hFm36 : zfr (fun k i j => (k = 34 ∧ j = 48) ∨ (k = 34 ∧ j = 47) ∨ (k = 71) ∨ (k = 72)) m0 m36 := by rw [hm36]; exact zfr_wI hFm34 (show (34 = 34 ∧ 47 = 48) ∨ (34 = 34 ∧ 47 = 47) ∨ (34 = 71) ∨ (34 = 72) from Or.inr (Or.inl (⟨rfl, rfl⟩)))
      have s37 : m36.1 34 0 47 = (m34.1 34 0 47) + 1 := by rw [hm36]; exact wuI_self
      exact ww_rV rfl rfl ⟨rfl, rfl, zB_mono hGm36 (by omega), hFm36, by trivial⟩
  · show wW (zK sc) zM225 16 [(5, .inl ((m0.1 34 0 47).tmod 30)), (0, .inr (.inr (.inl (some (34, 0))))), (1, .inl a), (2, .inl b), (3, .inl x), (4, .inl y)] [] _ _ _
    have b38 : 0 ≤ m0.1 34 0 47 ∧ m0.1 34 0 47 ≤ c := hG.1 34 _ rfl _ _
    have t39 : (0 ≤ ((m0.1 34 0 47) - 1) → ((m0.1 34 0 47) - 1).tmod 30 = ((m0.1 34 0 47) - 1) % 30) ∧ (((m0.1 34 0 47) - 1) < 0 → ((m0.1 34 0 47) - 1).tmod 30 = -((-(((m0.1 34 0 47) - 1))) % 30)) := ⟨fun z => Int.tmod_eq_emod_of_nonneg z, fun z => wtmod_neg z⟩
    refine ww_go 15 (pc' := 43) (L' := [(6, .inr (.inl (m0.2.1 72 0 ((((m0.1 34 0 47) - 1).tmod 30).toNat)))), (5, .inl ((m0.1 34 0 47).tmod 30)), (0, .inr (.inr (.inl (some (34, 0))))), (1, .inl a), (2, .inl b), (3, .inl x), (4, .inl y)]) (st' := [.inl 29, .inl (m0.1 34 0 47), .inr (.inr (.inl (some (34, 0))))]) (m' := m0) (o := some ((0 < 1) ∧ (0 < 1) ∧ (-2147483648 ≤ (m0.1 34 0 47) - 1 ∧ (m0.1 34 0 47) - 1 ≤ 2147483647 ∧ 0 < (30 : Int) ∧ (30 : Int) ≤ 2147483647) ∧ (0 < 1 ∧ 0 ≤ ((m0.1 34 0 47) - 1).tmod 30 ∧ ((m0.1 34 0 47) - 1).tmod 30 < ((30 : Nat) : Int)) ∧ (0 < 1))) rfl (show (0 < 1) ∧ (0 < 1) ∧ (-2147483648 ≤ (m0.1 34 0 47) - 1 ∧ (m0.1 34 0 47) - 1 ≤ 2147483647 ∧ 0 < (30 : Int) ∧ (30 : Int) ≤ 2147483647) ∧ (0 < 1 ∧ 0 ≤ ((m0.1 34 0 47) - 1).tmod 30 ∧ ((m0.1 34 0 47) - 1).tmod 30 < ((30 : Nat) : Int)) ∧ (0 < 1) from by omega) ?_
    refine ww_ic (t := 56) rfl rfl (by omega) (fun (h40 : m0.1 34 0 47 ≤ 29) => ?_) (fun (h40 : ¬ (m0.1 34 0 47 ≤ 29)) => ?_)
    · show wW (zK sc) zM225 56 [(6, .inr (.inl (m0.2.1 72 0 ((((m0.1 34 0 47) - 1).tmod 30).toNat)))), (5, .inl ((m0.1 34 0 47).tmod 30)), (0, .inr (.inr (.inl (some (34, 0))))), (1, .inl a), (2, .inl b), (3, .inl x), (4, .inl y)] [.inr (.inr (.inl (some (34, 0))))] _ _ _
      refine ww_go 3 (pc' := 63) (L' := [(6, .inr (.inl (m0.2.1 72 0 ((((m0.1 34 0 47) - 1).tmod 30).toNat)))), (5, .inl ((m0.1 34 0 47).tmod 30)), (0, .inr (.inr (.inl (some (34, 0))))), (1, .inl a), (2, .inl b), (3, .inl x), (4, .inl y)]) (st' := []) (m' := wuL m0 34 0 48 (m0.2.1 34 0 48)) (o := some ((0 < 1) ∧ (0 < 1))) rfl (show (0 < 1) ∧ (0 < 1) from by omega) ?_
      obtain ⟨m41, hm41⟩ : ∃ zq9 : wm, zq9 = wuL m0 34 0 48 (m0.2.1 34 0 48) := ⟨_, rfl⟩
      rw [← hm41]
      have hGm41 : zB c m41 := by rw [hm41]; exact zB_wL hG
      have hFm41 : zfr (fun k i j => (k = 34 ∧ j = 48) ∨ (k = 34 ∧ j = 47) ∨ (k = 71) ∨ (k = 72)) m0 m41 := by rw [hm41]; exact zfr_wL hF (show (34 = 34 ∧ 48 = 48) ∨ (34 = 34 ∧ 48 = 47) ∨ (34 = 71) ∨ (34 = 72) from Or.inl (⟨rfl, rfl⟩))
      refine ww_go 7 (pc' := 73) (L' := [(6, .inr (.inl (m0.2.1 72 0 ((((m0.1 34 0 47) - 1).tmod 30).toNat)))), (5, .inl ((m0.1 34 0 47).tmod 30)), (0, .inr (.inr (.inl (some (34, 0))))), (1, .inl a), (2, .inl b), (3, .inl x), (4, .inl y)]) (st' := []) (m' := wuI m41 71 0 ((4 * ((m0.1 34 0 47).tmod 30)).toNat) a) (o := some ((0 < 1) ∧ (0 < 1 ∧ 0 ≤ 4 * ((m0.1 34 0 47).tmod 30) ∧ 4 * ((m0.1 34 0 47).tmod 30) < ((120 : Nat) : Int)))) rfl (show (0 < 1) ∧ (0 < 1 ∧ 0 ≤ 4 * ((m0.1 34 0 47).tmod 30) ∧ 4 * ((m0.1 34 0 47).tmod 30) < ((120 : Nat) : Int)) from by omega) ?_
      obtain ⟨m42, hm42⟩ : ∃ zq9 : wm, zq9 = wuI m41 71 0 ((4 * ((m0.1 34 0 47).tmod 30)).toNat) a := ⟨_, rfl⟩
      rw [← hm42]
      have hGm42 : zB c m42 := by rw [hm42]; exact zB_wI rfl (show 0 ≤ a ∧ a ≤ 65535 from by omega) hGm41
      have hFm42 : zfr (fun k i j => (k = 34 ∧ j = 48) ∨ (k = 34 ∧ j = 47) ∨ (k = 71) ∨ (k = 72)) m0 m42 := by rw [hm42]; exact zfr_wI hFm41 (show (71 = 34 ∧ ((4 * ((m0.1 34 0 47).tmod 30)).toNat) = 48) ∨ (71 = 34 ∧ ((4 * ((m0.1 34 0 47).tmod 30)).toNat) = 47) ∨ (71 = 71) ∨ (71 = 72) from Or.inr (Or.inr (Or.inl rfl)))
      have s43 : m42.1 71 0 ((4 * ((m0.1 34 0 47).tmod 30)).toNat) = a := by rw [hm42]; exact wuI_self
      refine ww_go 9 (pc' := 85) (L' := [(6, .inr (.inl (m0.2.1 72 0 ((((m0.1 34 0 47) - 1).tmod 30).toNat)))), (5, .inl ((m0.1 34 0 47).tmod 30)), (0, .inr (.inr (.inl (some (34, 0))))), (1, .inl a), (2, .inl b), (3, .inl x), (4, .inl y)]) (st' := []) (m' := wuI m42 71 0 (((4 * ((m0.1 34 0 47).tmod 30)) + 1).toNat) b) (o := some ((0 < 1) ∧ (0 < 1 ∧ 0 ≤ (4 * ((m0.1 34 0 47).tmod 30)) + 1 ∧ (4 * ((m0.1 34 0 47).tmod 30)) + 1 < ((120 : Nat) : Int)))) rfl (show (0 < 1) ∧ (0 < 1 ∧ 0 ≤ (4 * ((m0.1 34 0 47).tmod 30)) + 1 ∧ (4 * ((m0.1 34 0 47).tmod 30)) + 1 < ((120 : Nat) : Int)) from by omega) ?_
      obtain ⟨m44, hm44⟩ : ∃ zq9 : wm, zq9 = wuI m42 71 0 (((4 * ((m0.1 34 0 47).tmod 30)) + 1).toNat) b := ⟨_, rfl⟩
      rw [← hm44]
      have hGm44 : zB c m44 := by rw [hm44]; exact zB_wI rfl (show 0 ≤ b ∧ b ≤ 65535 from by omega) hGm42
      have hFm44 : zfr (fun k i j => (k = 34 ∧ j = 48) ∨ (k = 34 ∧ j = 47) ∨ (k = 71) ∨ (k = 72)) m0 m44 := by rw [hm44]; exact zfr_wI hFm42 (show (71 = 34 ∧ (((4 * ((m0.1 34 0 47).tmod 30)) + 1).toNat) = 48) ∨ (71 = 34 ∧ (((4 * ((m0.1 34 0 47).tmod 30)) + 1).toNat) = 47) ∨ (71 = 71) ∨ (71 = 72) from Or.inr (Or.inr (Or.inl rfl)))
      have s45 : m44.1 71 0 (((4 * ((m0.1 34 0 47).tmod 30)) + 1).toNat) = b := by rw [hm44]; exact wuI_self
      refine ww_go 9 (pc' := 97) (L' := [(6, .inr (.inl (m0.2.1 72 0 ((((m0.1 34 0 47) - 1).tmod 30).toNat)))), (5, .inl ((m0.1 34 0 47).tmod 30)), (0, .inr (.inr (.inl (some (34, 0))))), (1, .inl a), (2, .inl b), (3, .inl x), (4, .inl y)]) (st' := []) (m' := wuI m44 71 0 (((4 * ((m0.1 34 0 47).tmod 30)) + 2).toNat) x) (o := some ((0 < 1) ∧ (0 < 1 ∧ 0 ≤ (4 * ((m0.1 34 0 47).tmod 30)) + 2 ∧ (4 * ((m0.1 34 0 47).tmod 30)) + 2 < ((120 : Nat) : Int)))) rfl (show (0 < 1) ∧ (0 < 1 ∧ 0 ≤ (4 * ((m0.1 34 0 47).tmod 30)) + 2 ∧ (4 * ((m0.1 34 0 47).tmod 30)) + 2 < ((120 : Nat) : Int)) from by omega) ?_
      obtain ⟨m46, hm46⟩ : ∃ zq9 : wm, zq9 = wuI m44 71 0 (((4 * ((m0.1 34 0 47).tmod 30)) + 2).toNat) x := ⟨_, rfl⟩
      rw [← hm46]
      have hGm46 : zB c m46 := by rw [hm46]; exact zB_wI rfl (show 0 ≤ x ∧ x ≤ 65535 from by omega) hGm44
      have hFm46 : zfr (fun k i j => (k = 34 ∧ j = 48) ∨ (k = 34 ∧ j = 47) ∨ (k = 71) ∨ (k = 72)) m0 m46 := by rw [hm46]; exact zfr_wI hFm44 (show (71 = 34 ∧ (((4 * ((m0.1 34 0 47).tmod 30)) + 2).toNat) = 48) ∨ (71 = 34 ∧ (((4 * ((m0.1 34 0 47).tmod 30)) + 2).toNat) = 47) ∨ (71 = 71) ∨ (71 = 72) from Or.inr (Or.inr (Or.inl rfl)))
      have s47 : m46.1 71 0 (((4 * ((m0.1 34 0 47).tmod 30)) + 2).toNat) = x := by rw [hm46]; exact wuI_self
      refine ww_go 9 (pc' := 110) (L' := [(6, .inr (.inl (m0.2.1 72 0 ((((m0.1 34 0 47) - 1).tmod 30).toNat)))), (5, .inl ((m0.1 34 0 47).tmod 30)), (0, .inr (.inr (.inl (some (34, 0))))), (1, .inl a), (2, .inl b), (3, .inl x), (4, .inl y)]) (st' := []) (m' := wuI m46 71 0 (((4 * ((m0.1 34 0 47).tmod 30)) + 3).toNat) y) (o := some ((0 < 1) ∧ (0 < 1 ∧ 0 ≤ (4 * ((m0.1 34 0 47).tmod 30)) + 3 ∧ (4 * ((m0.1 34 0 47).tmod 30)) + 3 < ((120 : Nat) : Int)))) rfl (show (0 < 1) ∧ (0 < 1 ∧ 0 ≤ (4 * ((m0.1 34 0 47).tmod 30)) + 3 ∧ (4 * ((m0.1 34 0 47).tmod 30)) + 3 < ((120 : Nat) : Int)) from by omega) ?_
      obtain ⟨m48, hm48⟩ : ∃ zq9 : wm, zq9 = wuI m46 71 0 (((4 * ((m0.1 34 0 47).tmod 30)) + 3).toNat) y := ⟨_, rfl⟩
      rw [← hm48]
      have hGm48 : zB c m48 := by rw [hm48]; exact zB_wI rfl (show 0 ≤ y ∧ y ≤ 65535 from by omega) hGm46
      have hFm48 : zfr (fun k i j => (k = 34 ∧ j = 48) ∨ (k = 34 ∧ j = 47) ∨ (k = 71) ∨ (k = 72)) m0 m48 := by rw [hm48]; exact zfr_wI hFm46 (show (71 = 34 ∧ (((4 * ((m0.1 34 0 47).tmod 30)) + 3).toNat) = 48) ∨ (71 = 34 ∧ (((4 * ((m0.1 34 0 47).tmod 30)) + 3).toNat) = 47) ∨ (71 = 71) ∨ (71 = 72) from Or.inr (Or.inr (Or.inl rfl)))
      have s49 : m48.1 71 0 (((4 * ((m0.1 34 0 47).tmod 30)) + 3).toNat) = y := by rw [hm48]; exact wuI_self
      have b50 : 0 ≤ m48.1 34 0 47 ∧ m48.1 34 0 47 ≤ c := hGm48.1 34 _ rfl _ _
      refine ww_go 7 (pc' := 123) (L' := [(6, .inr (.inl (m0.2.1 72 0 ((((m0.1 34 0 47) - 1).tmod 30).toNat)))), (5, .inl ((m0.1 34 0 47).tmod 30)), (0, .inr (.inr (.inl (some (34, 0))))), (1, .inl a), (2, .inl b), (3, .inl x), (4, .inl y)]) (st' := [.inl (m48.1 34 0 47), .inr (.inl (m0.2.1 72 0 ((((m0.1 34 0 47) - 1).tmod 30).toNat))), .inr (.inr (.inl (some (34, 0)))), .inl ((m0.1 34 0 47).tmod 30), .inr (.inr (.inl (some (72, 0))))]) (m' := m48) (o := some ((0 < 1) ∧ (0 < 1))) rfl (show (0 < 1) ∧ (0 < 1) from by omega) ?_
      refine ww_call (vs := [.inr (.inr (.inl (some (34, 0)))), .inr (.inl (m0.2.1 72 0 ((((m0.1 34 0 47) - 1).tmod 30).toNat))), .inl (m48.1 34 0 47)]) (r := [.inl ((m0.1 34 0 47).tmod 30), .inr (.inr (.inl (some (72, 0))))]) (p := 0 < 1) rfl rfl rfl rfl (show 0 < 1 from by omega) (zs219 (c := c) (by omega) (m0.2.1 72 0 ((((m0.1 34 0 47) - 1).tmod 30).toNat)) (m48.1 34 0 47) hGm48 (by omega)) ?_
      rintro _ _ _ ⟨r51, rfl, rfl, rfl, hr52⟩
      show wW (zK sc) zM225 126 [(6, .inr (.inl (m0.2.1 72 0 ((((m0.1 34 0 47) - 1).tmod 30).toNat)))), (5, .inl ((m0.1 34 0 47).tmod 30)), (0, .inr (.inr (.inl (some (34, 0))))), (1, .inl a), (2, .inl b), (3, .inl x), (4, .inl y)] [.inr (.inl r51), .inl ((m0.1 34 0 47).tmod 30), .inr (.inr (.inl (some (72, 0))))] _ _ _
      refine ww_go 1 (pc' := 127) (L' := [(6, .inr (.inl (m0.2.1 72 0 ((((m0.1 34 0 47) - 1).tmod 30).toNat)))), (5, .inl ((m0.1 34 0 47).tmod 30)), (0, .inr (.inr (.inl (some (34, 0))))), (1, .inl a), (2, .inl b), (3, .inl x), (4, .inl y)]) (st' := []) (m' := wuL m48 72 0 (((m0.1 34 0 47).tmod 30).toNat) r51) (o := some ((0 < 1 ∧ 0 ≤ (m0.1 34 0 47).tmod 30 ∧ (m0.1 34 0 47).tmod 30 < ((30 : Nat) : Int)))) rfl (show (0 < 1 ∧ 0 ≤ (m0.1 34 0 47).tmod 30 ∧ (m0.1 34 0 47).tmod 30 < ((30 : Nat) : Int)) from by omega) ?_
      obtain ⟨m53, hm53⟩ : ∃ zq9 : wm, zq9 = wuL m48 72 0 (((m0.1 34 0 47).tmod 30).toNat) r51 := ⟨_, rfl⟩
      rw [← hm53]
      have hGm53 : zB c m53 := by rw [hm53]; exact zB_wL hGm48
      have hFm53 : zfr (fun k i j => (k = 34 ∧ j = 48) ∨ (k = 34 ∧ j = 47) ∨ (k = 71) ∨ (k = 72)) m0 m53 := by rw [hm53]; exact zfr_wL hFm48 (show (72 = 34 ∧ (((m0.1 34 0 47).tmod 30).toNat) = 48) ∨ (72 = 34 ∧ (((m0.1 34 0 47).tmod 30).toNat) = 47) ∨ (72 = 71) ∨ (72 = 72) from Or.inr (Or.inr (Or.inr (rfl))))
      have b54 : 0 ≤ m53.1 34 0 47 ∧ m53.1 34 0 47 ≤ c := hGm53.1 34 _ rfl _ _
      refine ww_go 6 (pc' := 137) (L' := [(6, .inr (.inl (m0.2.1 72 0 ((((m0.1 34 0 47) - 1).tmod 30).toNat)))), (5, .inl ((m0.1 34 0 47).tmod 30)), (0, .inr (.inr (.inl (some (34, 0))))), (1, .inl a), (2, .inl b), (3, .inl x), (4, .inl y)]) (st' := []) (m' := wuI m53 34 0 47 ((m53.1 34 0 47) + 1)) (o := some ((0 < 1) ∧ (0 < 1))) rfl (show (0 < 1) ∧ (0 < 1) from by omega) ?_
      obtain ⟨m55, hm55⟩ : ∃ zq9 : wm, zq9 = wuI m53 34 0 47 ((m53.1 34 0 47) + 1) := ⟨_, rfl⟩
      rw [← hm55]
      have hXm55 := zB_mono (c' := (c + 1)) hGm53 (by omega)
      have hGm55 : zB (c + 1) m55 := by rw [hm55]; exact zB_wI rfl (show 0 ≤ (m53.1 34 0 47) + 1 ∧ (m53.1 34 0 47) + 1 ≤ (c + 1) from by omega) hXm55
      have hFm55 : zfr (fun k i j => (k = 34 ∧ j = 48) ∨ (k = 34 ∧ j = 47) ∨ (k = 71) ∨ (k = 72)) m0 m55 := by rw [hm55]; exact zfr_wI hFm53 (show (34 = 34 ∧ 47 = 48) ∨ (34 = 34 ∧ 47 = 47) ∨ (34 = 71) ∨ (34 = 72) from Or.inr (Or.inl (⟨rfl, rfl⟩)))
      have s56 : m55.1 34 0 47 = (m53.1 34 0 47) + 1 := by rw [hm55]; exact wuI_self
      exact ww_rV rfl rfl ⟨rfl, rfl, zB_mono hGm55 (by omega), hFm55, by trivial⟩
    · show wW (zK sc) zM225 46 [(6, .inr (.inl (m0.2.1 72 0 ((((m0.1 34 0 47) - 1).tmod 30).toNat)))), (5, .inl ((m0.1 34 0 47).tmod 30)), (0, .inr (.inr (.inl (some (34, 0))))), (1, .inl a), (2, .inl b), (3, .inl x), (4, .inl y)] [.inr (.inr (.inl (some (34, 0))))] _ _ _
      refine ww_go 6 (pc' := 63) (L' := [(6, .inr (.inl (m0.2.1 72 0 ((((m0.1 34 0 47) - 1).tmod 30).toNat)))), (5, .inl ((m0.1 34 0 47).tmod 30)), (0, .inr (.inr (.inl (some (34, 0))))), (1, .inl a), (2, .inl b), (3, .inl x), (4, .inl y)]) (st' := []) (m' := wuL m0 34 0 48 (m0.2.1 72 0 (((m0.1 34 0 47).tmod 30).toNat))) (o := some ((0 < 1) ∧ (0 < 1 ∧ 0 ≤ (m0.1 34 0 47).tmod 30 ∧ (m0.1 34 0 47).tmod 30 < ((30 : Nat) : Int)) ∧ (0 < 1))) rfl (show (0 < 1) ∧ (0 < 1 ∧ 0 ≤ (m0.1 34 0 47).tmod 30 ∧ (m0.1 34 0 47).tmod 30 < ((30 : Nat) : Int)) ∧ (0 < 1) from by omega) ?_
      obtain ⟨m57, hm57⟩ : ∃ zq9 : wm, zq9 = wuL m0 34 0 48 (m0.2.1 72 0 (((m0.1 34 0 47).tmod 30).toNat)) := ⟨_, rfl⟩
      rw [← hm57]
      have hGm57 : zB c m57 := by rw [hm57]; exact zB_wL hG
      have hFm57 : zfr (fun k i j => (k = 34 ∧ j = 48) ∨ (k = 34 ∧ j = 47) ∨ (k = 71) ∨ (k = 72)) m0 m57 := by rw [hm57]; exact zfr_wL hF (show (34 = 34 ∧ 48 = 48) ∨ (34 = 34 ∧ 48 = 47) ∨ (34 = 71) ∨ (34 = 72) from Or.inl (⟨rfl, rfl⟩))
      refine ww_go 7 (pc' := 73) (L' := [(6, .inr (.inl (m0.2.1 72 0 ((((m0.1 34 0 47) - 1).tmod 30).toNat)))), (5, .inl ((m0.1 34 0 47).tmod 30)), (0, .inr (.inr (.inl (some (34, 0))))), (1, .inl a), (2, .inl b), (3, .inl x), (4, .inl y)]) (st' := []) (m' := wuI m57 71 0 ((4 * ((m0.1 34 0 47).tmod 30)).toNat) a) (o := some ((0 < 1) ∧ (0 < 1 ∧ 0 ≤ 4 * ((m0.1 34 0 47).tmod 30) ∧ 4 * ((m0.1 34 0 47).tmod 30) < ((120 : Nat) : Int)))) rfl (show (0 < 1) ∧ (0 < 1 ∧ 0 ≤ 4 * ((m0.1 34 0 47).tmod 30) ∧ 4 * ((m0.1 34 0 47).tmod 30) < ((120 : Nat) : Int)) from by omega) ?_
      obtain ⟨m58, hm58⟩ : ∃ zq9 : wm, zq9 = wuI m57 71 0 ((4 * ((m0.1 34 0 47).tmod 30)).toNat) a := ⟨_, rfl⟩
      rw [← hm58]
      have hGm58 : zB c m58 := by rw [hm58]; exact zB_wI rfl (show 0 ≤ a ∧ a ≤ 65535 from by omega) hGm57
      have hFm58 : zfr (fun k i j => (k = 34 ∧ j = 48) ∨ (k = 34 ∧ j = 47) ∨ (k = 71) ∨ (k = 72)) m0 m58 := by rw [hm58]; exact zfr_wI hFm57 (show (71 = 34 ∧ ((4 * ((m0.1 34 0 47).tmod 30)).toNat) = 48) ∨ (71 = 34 ∧ ((4 * ((m0.1 34 0 47).tmod 30)).toNat) = 47) ∨ (71 = 71) ∨ (71 = 72) from Or.inr (Or.inr (Or.inl rfl)))
      have s59 : m58.1 71 0 ((4 * ((m0.1 34 0 47).tmod 30)).toNat) = a := by rw [hm58]; exact wuI_self
      refine ww_go 9 (pc' := 85) (L' := [(6, .inr (.inl (m0.2.1 72 0 ((((m0.1 34 0 47) - 1).tmod 30).toNat)))), (5, .inl ((m0.1 34 0 47).tmod 30)), (0, .inr (.inr (.inl (some (34, 0))))), (1, .inl a), (2, .inl b), (3, .inl x), (4, .inl y)]) (st' := []) (m' := wuI m58 71 0 (((4 * ((m0.1 34 0 47).tmod 30)) + 1).toNat) b) (o := some ((0 < 1) ∧ (0 < 1 ∧ 0 ≤ (4 * ((m0.1 34 0 47).tmod 30)) + 1 ∧ (4 * ((m0.1 34 0 47).tmod 30)) + 1 < ((120 : Nat) : Int)))) rfl (show (0 < 1) ∧ (0 < 1 ∧ 0 ≤ (4 * ((m0.1 34 0 47).tmod 30)) + 1 ∧ (4 * ((m0.1 34 0 47).tmod 30)) + 1 < ((120 : Nat) : Int)) from by omega) ?_
      obtain ⟨m60, hm60⟩ : ∃ zq9 : wm, zq9 = wuI m58 71 0 (((4 * ((m0.1 34 0 47).tmod 30)) + 1).toNat) b := ⟨_, rfl⟩
      rw [← hm60]
      have hGm60 : zB c m60 := by rw [hm60]; exact zB_wI rfl (show 0 ≤ b ∧ b ≤ 65535 from by omega) hGm58
      have hFm60 : zfr (fun k i j => (k = 34 ∧ j = 48) ∨ (k = 34 ∧ j = 47) ∨ (k = 71) ∨ (k = 72)) m0 m60 := by rw [hm60]; exact zfr_wI hFm58 (show (71 = 34 ∧ (((4 * ((m0.1 34 0 47).tmod 30)) + 1).toNat) = 48) ∨ (71 = 34 ∧ (((4 * ((m0.1 34 0 47).tmod 30)) + 1).toNat) = 47) ∨ (71 = 71) ∨ (71 = 72) from Or.inr (Or.inr (Or.inl rfl)))
      have s61 : m60.1 71 0 (((4 * ((m0.1 34 0 47).tmod 30)) + 1).toNat) = b := by rw [hm60]; exact wuI_self
      refine ww_go 9 (pc' := 97) (L' := [(6, .inr (.inl (m0.2.1 72 0 ((((m0.1 34 0 47) - 1).tmod 30).toNat)))), (5, .inl ((m0.1 34 0 47).tmod 30)), (0, .inr (.inr (.inl (some (34, 0))))), (1, .inl a), (2, .inl b), (3, .inl x), (4, .inl y)]) (st' := []) (m' := wuI m60 71 0 (((4 * ((m0.1 34 0 47).tmod 30)) + 2).toNat) x) (o := some ((0 < 1) ∧ (0 < 1 ∧ 0 ≤ (4 * ((m0.1 34 0 47).tmod 30)) + 2 ∧ (4 * ((m0.1 34 0 47).tmod 30)) + 2 < ((120 : Nat) : Int)))) rfl (show (0 < 1) ∧ (0 < 1 ∧ 0 ≤ (4 * ((m0.1 34 0 47).tmod 30)) + 2 ∧ (4 * ((m0.1 34 0 47).tmod 30)) + 2 < ((120 : Nat) : Int)) from by omega) ?_
      obtain ⟨m62, hm62⟩ : ∃ zq9 : wm, zq9 = wuI m60 71 0 (((4 * ((m0.1 34 0 47).tmod 30)) + 2).toNat) x := ⟨_, rfl⟩
      rw [← hm62]
      have hGm62 : zB c m62 := by rw [hm62]; exact zB_wI rfl (show 0 ≤ x ∧ x ≤ 65535 from by omega) hGm60
      have hFm62 : zfr (fun k i j => (k = 34 ∧ j = 48) ∨ (k = 34 ∧ j = 47) ∨ (k = 71) ∨ (k = 72)) m0 m62 := by rw [hm62]; exact zfr_wI hFm60 (show (71 = 34 ∧ (((4 * ((m0.1 34 0 47).tmod 30)) + 2).toNat) = 48) ∨ (71 = 34 ∧ (((4 * ((m0.1 34 0 47).tmod 30)) + 2).toNat) = 47) ∨ (71 = 71) ∨ (71 = 72) from Or.inr (Or.inr (Or.inl rfl)))
      have s63 : m62.1 71 0 (((4 * ((m0.1 34 0 47).tmod 30)) + 2).toNat) = x := by rw [hm62]; exact wuI_self
      refine ww_go 9 (pc' := 110) (L' := [(6, .inr (.inl (m0.2.1 72 0 ((((m0.1 34 0 47) - 1).tmod 30).toNat)))), (5, .inl ((m0.1 34 0 47).tmod 30)), (0, .inr (.inr (.inl (some (34, 0))))), (1, .inl a), (2, .inl b), (3, .inl x), (4, .inl y)]) (st' := []) (m' := wuI m62 71 0 (((4 * ((m0.1 34 0 47).tmod 30)) + 3).toNat) y) (o := some ((0 < 1) ∧ (0 < 1 ∧ 0 ≤ (4 * ((m0.1 34 0 47).tmod 30)) + 3 ∧ (4 * ((m0.1 34 0 47).tmod 30)) + 3 < ((120 : Nat) : Int)))) rfl (show (0 < 1) ∧ (0 < 1 ∧ 0 ≤ (4 * ((m0.1 34 0 47).tmod 30)) + 3 ∧ (4 * ((m0.1 34 0 47).tmod 30)) + 3 < ((120 : Nat) : Int)) from by omega) ?_
      obtain ⟨m64, hm64⟩ : ∃ zq9 : wm, zq9 = wuI m62 71 0 (((4 * ((m0.1 34 0 47).tmod 30)) + 3).toNat) y := ⟨_, rfl⟩
      rw [← hm64]
      have hGm64 : zB c m64 := by rw [hm64]; exact zB_wI rfl (show 0 ≤ y ∧ y ≤ 65535 from by omega) hGm62
      have hFm64 : zfr (fun k i j => (k = 34 ∧ j = 48) ∨ (k = 34 ∧ j = 47) ∨ (k = 71) ∨ (k = 72)) m0 m64 := by rw [hm64]; exact zfr_wI hFm62 (show (71 = 34 ∧ (((4 * ((m0.1 34 0 47).tmod 30)) + 3).toNat) = 48) ∨ (71 = 34 ∧ (((4 * ((m0.1 34 0 47).tmod 30)) + 3).toNat) = 47) ∨ (71 = 71) ∨ (71 = 72) from Or.inr (Or.inr (Or.inl rfl)))
      have s65 : m64.1 71 0 (((4 * ((m0.1 34 0 47).tmod 30)) + 3).toNat) = y := by rw [hm64]; exact wuI_self
      have b66 : 0 ≤ m64.1 34 0 47 ∧ m64.1 34 0 47 ≤ c := hGm64.1 34 _ rfl _ _
      refine ww_go 7 (pc' := 123) (L' := [(6, .inr (.inl (m0.2.1 72 0 ((((m0.1 34 0 47) - 1).tmod 30).toNat)))), (5, .inl ((m0.1 34 0 47).tmod 30)), (0, .inr (.inr (.inl (some (34, 0))))), (1, .inl a), (2, .inl b), (3, .inl x), (4, .inl y)]) (st' := [.inl (m64.1 34 0 47), .inr (.inl (m0.2.1 72 0 ((((m0.1 34 0 47) - 1).tmod 30).toNat))), .inr (.inr (.inl (some (34, 0)))), .inl ((m0.1 34 0 47).tmod 30), .inr (.inr (.inl (some (72, 0))))]) (m' := m64) (o := some ((0 < 1) ∧ (0 < 1))) rfl (show (0 < 1) ∧ (0 < 1) from by omega) ?_
      refine ww_call (vs := [.inr (.inr (.inl (some (34, 0)))), .inr (.inl (m0.2.1 72 0 ((((m0.1 34 0 47) - 1).tmod 30).toNat))), .inl (m64.1 34 0 47)]) (r := [.inl ((m0.1 34 0 47).tmod 30), .inr (.inr (.inl (some (72, 0))))]) (p := 0 < 1) rfl rfl rfl rfl (show 0 < 1 from by omega) (zs219 (c := c) (by omega) (m0.2.1 72 0 ((((m0.1 34 0 47) - 1).tmod 30).toNat)) (m64.1 34 0 47) hGm64 (by omega)) ?_
      rintro _ _ _ ⟨r67, rfl, rfl, rfl, hr68⟩
      show wW (zK sc) zM225 126 [(6, .inr (.inl (m0.2.1 72 0 ((((m0.1 34 0 47) - 1).tmod 30).toNat)))), (5, .inl ((m0.1 34 0 47).tmod 30)), (0, .inr (.inr (.inl (some (34, 0))))), (1, .inl a), (2, .inl b), (3, .inl x), (4, .inl y)] [.inr (.inl r67), .inl ((m0.1 34 0 47).tmod 30), .inr (.inr (.inl (some (72, 0))))] _ _ _
      refine ww_go 1 (pc' := 127) (L' := [(6, .inr (.inl (m0.2.1 72 0 ((((m0.1 34 0 47) - 1).tmod 30).toNat)))), (5, .inl ((m0.1 34 0 47).tmod 30)), (0, .inr (.inr (.inl (some (34, 0))))), (1, .inl a), (2, .inl b), (3, .inl x), (4, .inl y)]) (st' := []) (m' := wuL m64 72 0 (((m0.1 34 0 47).tmod 30).toNat) r67) (o := some ((0 < 1 ∧ 0 ≤ (m0.1 34 0 47).tmod 30 ∧ (m0.1 34 0 47).tmod 30 < ((30 : Nat) : Int)))) rfl (show (0 < 1 ∧ 0 ≤ (m0.1 34 0 47).tmod 30 ∧ (m0.1 34 0 47).tmod 30 < ((30 : Nat) : Int)) from by omega) ?_
      obtain ⟨m69, hm69⟩ : ∃ zq9 : wm, zq9 = wuL m64 72 0 (((m0.1 34 0 47).tmod 30).toNat) r67 := ⟨_, rfl⟩
      rw [← hm69]
      have hGm69 : zB c m69 := by rw [hm69]; exact zB_wL hGm64
      have hFm69 : zfr (fun k i j => (k = 34 ∧ j = 48) ∨ (k = 34 ∧ j = 47) ∨ (k = 71) ∨ (k = 72)) m0 m69 := by rw [hm69]; exact zfr_wL hFm64 (show (72 = 34 ∧ (((m0.1 34 0 47).tmod 30).toNat) = 48) ∨ (72 = 34 ∧ (((m0.1 34 0 47).tmod 30).toNat) = 47) ∨ (72 = 71) ∨ (72 = 72) from Or.inr (Or.inr (Or.inr (rfl))))
      have b70 : 0 ≤ m69.1 34 0 47 ∧ m69.1 34 0 47 ≤ c := hGm69.1 34 _ rfl _ _
      refine ww_go 6 (pc' := 137) (L' := [(6, .inr (.inl (m0.2.1 72 0 ((((m0.1 34 0 47) - 1).tmod 30).toNat)))), (5, .inl ((m0.1 34 0 47).tmod 30)), (0, .inr (.inr (.inl (some (34, 0))))), (1, .inl a), (2, .inl b), (3, .inl x), (4, .inl y)]) (st' := []) (m' := wuI m69 34 0 47 ((m69.1 34 0 47) + 1)) (o := some ((0 < 1) ∧ (0 < 1))) rfl (show (0 < 1) ∧ (0 < 1) from by omega) ?_
      obtain ⟨m71, hm71⟩ : ∃ zq9 : wm, zq9 = wuI m69 34 0 47 ((m69.1 34 0 47) + 1) := ⟨_, rfl⟩
      rw [← hm71]
      have hXm71 := zB_mono (c' := (c + 1)) hGm69 (by omega)
      have hGm71 : zB (c + 1) m71 := by rw [hm71]; exact zB_wI rfl (show 0 ≤ (m69.1 34 0 47) + 1 ∧ (m69.1 34 0 47) + 1 ≤ (c + 1) from by omega) hXm71
      have hFm71 : zfr (fun k i j => (k = 34 ∧ j = 48) ∨ (k = 34 ∧ j = 47) ∨ (k = 71) ∨ (k = 72)) m0 m71 := by rw [hm71]; exact zfr_wI hFm69 (show (34 = 34 ∧ 47 = 48) ∨ (34 = 34 ∧ 47 = 47) ∨ (34 = 71) ∨ (34 = 72) from Or.inr (Or.inl (⟨rfl, rfl⟩)))
      have s72 : m71.1 34 0 47 = (m69.1 34 0 47) + 1 := by rw [hm71]; exact wuI_self
      exact ww_rV rfl rfl ⟨rfl, rfl, zB_mono hGm71 (by omega), hFm71, by trivial⟩
set_option maxRecDepth 8000 in
/-- Mo.isKept -/
theorem zs210 {sc : xSc} {n : Nat × Nat} {m : wm} {c : Int} (hc : 0 ≤ c ∧ c ≤ 1000000) (x : Int) (hG : zB c m) (h0 : -2147483648 ≤ x ∧ x ≤ 2147483647) : wX (zK sc) 210 [.inr (.inr (.inl (some (34, 0)))), .inl x] n m (wr (fun vv n1 m1 => ∃ r : Int, vv = some (.inl r) ∧ n = n1 ∧ m = m1 ∧ ((r = 1 ∧ 0 ≤ x ∧ x < m.1 34 0 47) ∨ r = 0))) := by
  refine wX_of (N := zM210) rfl (Nat.le_of_ble_eq_true rfl) ?_
  show wW (zK sc) zM210 0 [(0, .inr (.inr (.inl (some (34, 0))))), (1, .inl x)] [] n m _
  refine ww_go 1 (pc' := 1) (L' := [(0, .inr (.inr (.inl (some (34, 0))))), (1, .inl x)]) (st' := [.inl x]) (m' := m) (o := none) rfl trivial ?_
  refine ww_if (t := 27) rfl rfl (by omega) (fun (h1 : x < 0) => ?_) (fun (h1 : ¬ (x < 0)) => ?_)
  · show wW (zK sc) zM210 27 [(0, .inr (.inr (.inl (some (34, 0))))), (1, .inl x)] [] _ _ _
    refine ww_go 1 (pc' := 28) (L' := [(0, .inr (.inr (.inl (some (34, 0))))), (1, .inl x)]) (st' := [.inl 0]) (m' := m) (o := none) rfl trivial ?_
    exact ww_rB rfl rfl (by omega) ⟨_, rfl, rfl, rfl, by omega⟩
  · show wW (zK sc) zM210 4 [(0, .inr (.inr (.inl (some (34, 0))))), (1, .inl x)] [] _ _ _
    have b2 : 0 ≤ m.1 34 0 47 ∧ m.1 34 0 47 ≤ c := hG.1 34 _ rfl _ _
    refine ww_go 3 (pc' := 9) (L' := [(0, .inr (.inr (.inl (some (34, 0))))), (1, .inl x)]) (st' := [.inl (m.1 34 0 47), .inl x]) (m' := m) (o := some ((0 < 1))) rfl (show (0 < 1) from by omega) ?_
    refine ww_ic (t := 27) rfl rfl (by omega) (fun (h3 : m.1 34 0 47 ≤ x) => ?_) (fun (h3 : ¬ (m.1 34 0 47 ≤ x)) => ?_)
    · show wW (zK sc) zM210 27 [(0, .inr (.inr (.inl (some (34, 0))))), (1, .inl x)] [] _ _ _
      refine ww_go 1 (pc' := 28) (L' := [(0, .inr (.inr (.inl (some (34, 0))))), (1, .inl x)]) (st' := [.inl 0]) (m' := m) (o := none) rfl trivial ?_
      exact ww_rB rfl rfl (by omega) ⟨_, rfl, rfl, rfl, by omega⟩
    · show wW (zK sc) zM210 12 [(0, .inr (.inr (.inl (some (34, 0))))), (1, .inl x)] [] _ _ _
      have b4 : 0 ≤ m.1 34 0 47 ∧ m.1 34 0 47 ≤ c := hG.1 34 _ rfl _ _
      refine ww_go 5 (pc' := 20) (L' := [(0, .inr (.inr (.inl (some (34, 0))))), (1, .inl x)]) (st' := [.inl ((m.1 34 0 47) - 30), .inl x]) (m' := m) (o := some ((0 < 1))) rfl (show (0 < 1) from by omega) ?_
      refine ww_ic (t := 27) rfl rfl (by omega) (fun (h5 : x < (m.1 34 0 47) - 30) => ?_) (fun (h5 : ¬ (x < (m.1 34 0 47) - 30)) => ?_)
      · show wW (zK sc) zM210 27 [(0, .inr (.inr (.inl (some (34, 0))))), (1, .inl x)] [] _ _ _
        refine ww_go 1 (pc' := 28) (L' := [(0, .inr (.inr (.inl (some (34, 0))))), (1, .inl x)]) (st' := [.inl 0]) (m' := m) (o := none) rfl trivial ?_
        exact ww_rB rfl rfl (by omega) ⟨_, rfl, rfl, rfl, by omega⟩
      · show wW (zK sc) zM210 23 [(0, .inr (.inr (.inl (some (34, 0))))), (1, .inl x)] [] _ _ _
        refine ww_go 2 (pc' := 28) (L' := [(0, .inr (.inr (.inl (some (34, 0))))), (1, .inl x)]) (st' := [.inl 1]) (m' := m) (o := none) rfl trivial ?_
        exact ww_rB rfl rfl (by omega) ⟨_, rfl, rfl, rfl, by omega⟩
set_option maxRecDepth 8000 in
/-- Mo.journal -/
theorem zs215 {sc : xSc} {n : Nat × Nat} {m0 : wm} {c : Int} (hc : 0 ≤ c ∧ c ≤ 1000000) (x : Int) (y : Int) (hG : zB c m0) (h0 : -2147483648 ≤ x ∧ x ≤ 2147483647 ∧ -2147483648 ≤ y ∧ y ≤ 2147483647) : wX (zK sc) 215 [.inr (.inr (.inl (some (34, 0)))), .inl x, .inl y] n m0 (wr (fun vv n1 m1 => ∃ r : Int64, vv = some (.inr (.inl r)) ∧ n = n1 ∧ zB c m1 ∧ zfr (fun k i j => (k = 34 ∧ j = 0)) m0 m1 ∧ True)) := by
  refine wX_of (N := zM215) rfl (Nat.le_of_ble_eq_true rfl) ?_
  show wW (zK sc) zM215 0 [(0, .inr (.inr (.inl (some (34, 0))))), (1, .inl x), (2, .inl y)] [] n m0 _
  have hF : zfr (fun k i j => (k = 34 ∧ j = 0)) m0 m0 := zfr_rf
  refine ww_go 4 (pc' := 4) (L' := [(0, .inr (.inr (.inl (some (34, 0))))), (1, .inl x), (2, .inl y)]) (st' := [.inl 4, .inl 0, .inl y, .inr (.inr (.inl (some (34, 0))))]) (m' := m0) (o := none) rfl trivial ?_
  refine ww_call (vs := [.inl y, .inl 0, .inl 4]) (r := [.inr (.inr (.inl (some (34, 0))))]) (p := True) rfl rfl rfl rfl trivial (zs207 y 0 4 (by omega)) ?_
  rintro _ _ _ ⟨r1, rfl, rfl, rfl, hr2⟩
  show wW (zK sc) zM215 7 [(0, .inr (.inr (.inl (some (34, 0))))), (1, .inl x), (2, .inl y)] [.inl r1, .inr (.inr (.inl (some (34, 0))))] _ _ _
  refine ww_if (t := 14) rfl rfl (by omega) (fun (h3 : r1 ≠ 0) => ?_) (fun (h3 : ¬ (r1 ≠ 0)) => ?_)
  · show wW (zK sc) zM215 14 [(0, .inr (.inr (.inl (some (34, 0))))), (1, .inl x), (2, .inl y)] [.inr (.inr (.inl (some (34, 0))))] _ _ _
    refine ww_go 2 (pc' := 16) (L' := [(0, .inr (.inr (.inl (some (34, 0))))), (1, .inl x), (2, .inl y)]) (st' := [.inl 1, .inl 0, .inr (.inr (.inl (some (34, 0))))]) (m' := m0) (o := none) rfl trivial ?_
    refine ww_call (vs := [.inr (.inr (.inl (some (34, 0)))), .inl 0, .inl 1]) (r := []) (p := 0 < 1) rfl rfl rfl rfl (show 0 < 1 from by omega) (zs196 (c := c) (by omega) 0 1 hG (by omega)) ?_
    rintro _ _ m6 ⟨r4, rfl, rfl, hGm6, hEm6, hr5⟩
    have hFm6 : zfr (fun k i j => (k = 34 ∧ j = 0)) m0 m6 := zfr_tr hF hEm6 (fun k i j z => z)
    show wW (zK sc) zM215 19 [(0, .inr (.inr (.inl (some (34, 0))))), (1, .inl x), (2, .inl y)] [.inl r4] _ _ _
    refine ww_if (t := 48) rfl rfl (by omega) (fun (h7 : r4 ≠ 0) => ?_) (fun (h7 : ¬ (r4 ≠ 0)) => ?_)
    · show wW (zK sc) zM215 48 [(0, .inr (.inr (.inl (some (34, 0))))), (1, .inl x), (2, .inl y)] [] _ _ _
      refine ww_go 1 (pc' := 49) (L' := [(0, .inr (.inr (.inl (some (34, 0))))), (1, .inl x), (2, .inl y)]) (st' := [.inr (.inl (Int64.ofNat 0))]) (m' := m6) (o := none) rfl trivial ?_
      exact ww_rL rfl rfl ⟨_, rfl, rfl, zB_mono hGm6 (by omega), hFm6, by trivial⟩
    · show wW (zK sc) zM215 22 [(0, .inr (.inr (.inl (some (34, 0))))), (1, .inl x), (2, .inl y)] [] _ _ _
      refine ww_go 3 (pc' := 25) (L' := [(0, .inr (.inr (.inl (some (34, 0))))), (1, .inl x), (2, .inl y)]) (st' := [.inl ((-1)), .inl x, .inr (.inr (.inl (some (34, 0))))]) (m' := m6) (o := none) rfl trivial ?_
      refine ww_ic (t := 40) rfl rfl (by omega) (fun (h8 : x = (-1)) => ?_) (fun (h8 : ¬ (x = (-1))) => ?_)
      · show wW (zK sc) zM215 40 [(0, .inr (.inr (.inl (some (34, 0))))), (1, .inl x), (2, .inl y)] [.inr (.inr (.inl (some (34, 0))))] _ _ _
        refine ww_go 2 (pc' := 42) (L' := [(0, .inr (.inr (.inl (some (34, 0))))), (1, .inl x), (2, .inl y)]) (st' := [.inl 2, .inl 0, .inr (.inr (.inl (some (34, 0))))]) (m' := m6) (o := none) rfl trivial ?_
        refine ww_call (vs := [.inr (.inr (.inl (some (34, 0)))), .inl 0, .inl 2]) (r := []) (p := 0 < 1) rfl rfl rfl rfl (show 0 < 1 from by omega) (zs196 (c := c) (by omega) 0 2 hGm6 (by omega)) ?_
        rintro _ _ m11 ⟨r9, rfl, rfl, hGm11, hEm11, hr10⟩
        have hFm11 : zfr (fun k i j => (k = 34 ∧ j = 0)) m0 m11 := zfr_tr hFm6 hEm11 (fun k i j z => z)
        show wW (zK sc) zM215 45 [(0, .inr (.inr (.inl (some (34, 0))))), (1, .inl x), (2, .inl y)] [.inl r9] _ _ _
        refine ww_if (t := 50) rfl rfl (by omega) (fun (h12 : r9 = 0) => ?_) (fun (h12 : ¬ (r9 = 0)) => ?_)
        · show wW (zK sc) zM215 50 [(0, .inr (.inr (.inl (some (34, 0))))), (1, .inl x), (2, .inl y)] [] _ _ _
          refine ww_go 1 (pc' := 51) (L' := [(0, .inr (.inr (.inl (some (34, 0))))), (1, .inl x), (2, .inl y)]) (st' := [.inl x]) (m' := m11) (o := none) rfl trivial ?_
          refine ww_if (t := 62) rfl rfl (by omega) (fun (h13 : 0 ≤ x) => ?_) (fun (h13 : ¬ (0 ≤ x)) => ?_)
          · show wW (zK sc) zM215 62 [(0, .inr (.inr (.inl (some (34, 0))))), (1, .inl x), (2, .inl y)] [] _ _ _
            refine ww_go 2 (pc' := 64) (L' := [(0, .inr (.inr (.inl (some (34, 0))))), (1, .inl x), (2, .inl y)]) (st' := [.inl 4, .inl y]) (m' := m11) (o := none) rfl trivial ?_
            refine ww_ic (t := 79) rfl rfl (by omega) (fun (h14 : y ≠ 4) => ?_) (fun (h14 : ¬ (y ≠ 4)) => ?_)
            · show wW (zK sc) zM215 79 [(0, .inr (.inr (.inl (some (34, 0))))), (1, .inl x), (2, .inl y)] [] _ _ _
              have t15 : (0 ≤ x → x.tmod 30 = x % 30) ∧ (x < 0 → x.tmod 30 = -((-x) % 30)) := ⟨fun z => Int.tmod_eq_emod_of_nonneg z, fun z => wtmod_neg z⟩
              have b16 : 0 ≤ m11.1 71 0 (((4 * (x.tmod 30)) + y).toNat) ∧ m11.1 71 0 (((4 * (x.tmod 30)) + y).toNat) ≤ 65535 := hGm11.1 71 _ rfl _ _
              refine ww_go 11 (pc' := 93) (L' := [(0, .inr (.inr (.inl (some (34, 0))))), (1, .inl x), (2, .inl y)]) (st' := [.inr (.inl (wi2l (m11.1 71 0 (((4 * (x.tmod 30)) + y).toNat))))]) (m' := m11) (o := some ((0 < 1) ∧ (-2147483648 ≤ x ∧ x ≤ 2147483647 ∧ 0 < (30 : Int) ∧ (30 : Int) ≤ 2147483647) ∧ (0 < 1 ∧ 0 ≤ (4 * (x.tmod 30)) + y ∧ (4 * (x.tmod 30)) + y < ((120 : Nat) : Int)))) rfl (show (0 < 1) ∧ (-2147483648 ≤ x ∧ x ≤ 2147483647 ∧ 0 < (30 : Int) ∧ (30 : Int) ≤ 2147483647) ∧ (0 < 1 ∧ 0 ≤ (4 * (x.tmod 30)) + y ∧ (4 * (x.tmod 30)) + y < ((120 : Nat) : Int)) from by omega) ?_
              exact ww_rL rfl rfl ⟨_, rfl, rfl, zB_mono hGm11 (by omega), hFm11, by trivial⟩
            · show wW (zK sc) zM215 67 [(0, .inr (.inr (.inl (some (34, 0))))), (1, .inl x), (2, .inl y)] [] _ _ _
              have t17 : (0 ≤ x → x.tmod 30 = x % 30) ∧ (x < 0 → x.tmod 30 = -((-x) % 30)) := ⟨fun z => Int.tmod_eq_emod_of_nonneg z, fun z => wtmod_neg z⟩
              refine ww_go 7 (pc' := 93) (L' := [(0, .inr (.inr (.inl (some (34, 0))))), (1, .inl x), (2, .inl y)]) (st' := [.inr (.inl (m11.2.1 72 0 ((x.tmod 30).toNat)))]) (m' := m11) (o := some ((0 < 1) ∧ (-2147483648 ≤ x ∧ x ≤ 2147483647 ∧ 0 < (30 : Int) ∧ (30 : Int) ≤ 2147483647) ∧ (0 < 1 ∧ 0 ≤ x.tmod 30 ∧ x.tmod 30 < ((30 : Nat) : Int)))) rfl (show (0 < 1) ∧ (-2147483648 ≤ x ∧ x ≤ 2147483647 ∧ 0 < (30 : Int) ∧ (30 : Int) ≤ 2147483647) ∧ (0 < 1 ∧ 0 ≤ x.tmod 30 ∧ x.tmod 30 < ((30 : Nat) : Int)) from by omega) ?_
              exact ww_rL rfl rfl ⟨_, rfl, rfl, zB_mono hGm11 (by omega), hFm11, by trivial⟩
          · show wW (zK sc) zM215 54 [(0, .inr (.inr (.inl (some (34, 0))))), (1, .inl x), (2, .inl y)] [] _ _ _
            have b18 : 0 ≤ m11.1 34 0 47 ∧ m11.1 34 0 47 ≤ c := hGm11.1 34 _ rfl _ _
            refine ww_go 4 (pc' := 93) (L' := [(0, .inr (.inr (.inl (some (34, 0))))), (1, .inl x), (2, .inl y)]) (st' := [.inr (.inl (wi2l (m11.1 34 0 47)))]) (m' := m11) (o := some ((0 < 1))) rfl (show (0 < 1) from by omega) ?_
            exact ww_rL rfl rfl ⟨_, rfl, rfl, zB_mono hGm11 (by omega), hFm11, by trivial⟩
        · show wW (zK sc) zM215 48 [(0, .inr (.inr (.inl (some (34, 0))))), (1, .inl x), (2, .inl y)] [] _ _ _
          refine ww_go 1 (pc' := 49) (L' := [(0, .inr (.inr (.inl (some (34, 0))))), (1, .inl x), (2, .inl y)]) (st' := [.inr (.inl (Int64.ofNat 0))]) (m' := m11) (o := none) rfl trivial ?_
          exact ww_rL rfl rfl ⟨_, rfl, rfl, zB_mono hGm11 (by omega), hFm11, by trivial⟩
      · show wW (zK sc) zM215 28 [(0, .inr (.inr (.inl (some (34, 0))))), (1, .inl x), (2, .inl y)] [.inr (.inr (.inl (some (34, 0))))] _ _ _
        refine ww_go 2 (pc' := 30) (L' := [(0, .inr (.inr (.inl (some (34, 0))))), (1, .inl x), (2, .inl y)]) (st' := [.inl x, .inr (.inr (.inl (some (34, 0)))), .inr (.inr (.inl (some (34, 0))))]) (m' := m6) (o := none) rfl trivial ?_
        refine ww_call (vs := [.inr (.inr (.inl (some (34, 0)))), .inl x]) (r := [.inr (.inr (.inl (some (34, 0))))]) (p := 0 < 1) rfl rfl rfl rfl (show 0 < 1 from by omega) (zs210 (c := c) (by omega) x hGm6 (by omega)) ?_
        rintro _ _ _ ⟨r19, rfl, rfl, rfl, hr20⟩
        show wW (zK sc) zM215 33 [(0, .inr (.inr (.inl (some (34, 0))))), (1, .inl x), (2, .inl y)] [.inl r19, .inr (.inr (.inl (some (34, 0))))] _ _ _
        refine ww_if (t := 40) rfl rfl (by omega) (fun (h21 : r19 ≠ 0) => ?_) (fun (h21 : ¬ (r19 ≠ 0)) => ?_)
        · show wW (zK sc) zM215 40 [(0, .inr (.inr (.inl (some (34, 0))))), (1, .inl x), (2, .inl y)] [.inr (.inr (.inl (some (34, 0))))] _ _ _
          refine ww_go 2 (pc' := 42) (L' := [(0, .inr (.inr (.inl (some (34, 0))))), (1, .inl x), (2, .inl y)]) (st' := [.inl 2, .inl 0, .inr (.inr (.inl (some (34, 0))))]) (m' := m6) (o := none) rfl trivial ?_
          refine ww_call (vs := [.inr (.inr (.inl (some (34, 0)))), .inl 0, .inl 2]) (r := []) (p := 0 < 1) rfl rfl rfl rfl (show 0 < 1 from by omega) (zs196 (c := c) (by omega) 0 2 hGm6 (by omega)) ?_
          rintro _ _ m24 ⟨r22, rfl, rfl, hGm24, hEm24, hr23⟩
          have hFm24 : zfr (fun k i j => (k = 34 ∧ j = 0)) m0 m24 := zfr_tr hFm6 hEm24 (fun k i j z => z)
          show wW (zK sc) zM215 45 [(0, .inr (.inr (.inl (some (34, 0))))), (1, .inl x), (2, .inl y)] [.inl r22] _ _ _
          refine ww_if (t := 50) rfl rfl (by omega) (fun (h25 : r22 = 0) => ?_) (fun (h25 : ¬ (r22 = 0)) => ?_)
          · show wW (zK sc) zM215 50 [(0, .inr (.inr (.inl (some (34, 0))))), (1, .inl x), (2, .inl y)] [] _ _ _
            refine ww_go 1 (pc' := 51) (L' := [(0, .inr (.inr (.inl (some (34, 0))))), (1, .inl x), (2, .inl y)]) (st' := [.inl x]) (m' := m24) (o := none) rfl trivial ?_
            refine ww_if (t := 62) rfl rfl (by omega) (fun (h26 : 0 ≤ x) => ?_) (fun (h26 : ¬ (0 ≤ x)) => ?_)
            · show wW (zK sc) zM215 62 [(0, .inr (.inr (.inl (some (34, 0))))), (1, .inl x), (2, .inl y)] [] _ _ _
              refine ww_go 2 (pc' := 64) (L' := [(0, .inr (.inr (.inl (some (34, 0))))), (1, .inl x), (2, .inl y)]) (st' := [.inl 4, .inl y]) (m' := m24) (o := none) rfl trivial ?_
              refine ww_ic (t := 79) rfl rfl (by omega) (fun (h27 : y ≠ 4) => ?_) (fun (h27 : ¬ (y ≠ 4)) => ?_)
              · show wW (zK sc) zM215 79 [(0, .inr (.inr (.inl (some (34, 0))))), (1, .inl x), (2, .inl y)] [] _ _ _
                have t28 : (0 ≤ x → x.tmod 30 = x % 30) ∧ (x < 0 → x.tmod 30 = -((-x) % 30)) := ⟨fun z => Int.tmod_eq_emod_of_nonneg z, fun z => wtmod_neg z⟩
                have b29 : 0 ≤ m24.1 71 0 (((4 * (x.tmod 30)) + y).toNat) ∧ m24.1 71 0 (((4 * (x.tmod 30)) + y).toNat) ≤ 65535 := hGm24.1 71 _ rfl _ _
                refine ww_go 11 (pc' := 93) (L' := [(0, .inr (.inr (.inl (some (34, 0))))), (1, .inl x), (2, .inl y)]) (st' := [.inr (.inl (wi2l (m24.1 71 0 (((4 * (x.tmod 30)) + y).toNat))))]) (m' := m24) (o := some ((0 < 1) ∧ (-2147483648 ≤ x ∧ x ≤ 2147483647 ∧ 0 < (30 : Int) ∧ (30 : Int) ≤ 2147483647) ∧ (0 < 1 ∧ 0 ≤ (4 * (x.tmod 30)) + y ∧ (4 * (x.tmod 30)) + y < ((120 : Nat) : Int)))) rfl (show (0 < 1) ∧ (-2147483648 ≤ x ∧ x ≤ 2147483647 ∧ 0 < (30 : Int) ∧ (30 : Int) ≤ 2147483647) ∧ (0 < 1 ∧ 0 ≤ (4 * (x.tmod 30)) + y ∧ (4 * (x.tmod 30)) + y < ((120 : Nat) : Int)) from by omega) ?_
                exact ww_rL rfl rfl ⟨_, rfl, rfl, zB_mono hGm24 (by omega), hFm24, by trivial⟩
              · show wW (zK sc) zM215 67 [(0, .inr (.inr (.inl (some (34, 0))))), (1, .inl x), (2, .inl y)] [] _ _ _
                have t30 : (0 ≤ x → x.tmod 30 = x % 30) ∧ (x < 0 → x.tmod 30 = -((-x) % 30)) := ⟨fun z => Int.tmod_eq_emod_of_nonneg z, fun z => wtmod_neg z⟩
                refine ww_go 7 (pc' := 93) (L' := [(0, .inr (.inr (.inl (some (34, 0))))), (1, .inl x), (2, .inl y)]) (st' := [.inr (.inl (m24.2.1 72 0 ((x.tmod 30).toNat)))]) (m' := m24) (o := some ((0 < 1) ∧ (-2147483648 ≤ x ∧ x ≤ 2147483647 ∧ 0 < (30 : Int) ∧ (30 : Int) ≤ 2147483647) ∧ (0 < 1 ∧ 0 ≤ x.tmod 30 ∧ x.tmod 30 < ((30 : Nat) : Int)))) rfl (show (0 < 1) ∧ (-2147483648 ≤ x ∧ x ≤ 2147483647 ∧ 0 < (30 : Int) ∧ (30 : Int) ≤ 2147483647) ∧ (0 < 1 ∧ 0 ≤ x.tmod 30 ∧ x.tmod 30 < ((30 : Nat) : Int)) from by omega) ?_
                exact ww_rL rfl rfl ⟨_, rfl, rfl, zB_mono hGm24 (by omega), hFm24, by trivial⟩
            · show wW (zK sc) zM215 54 [(0, .inr (.inr (.inl (some (34, 0))))), (1, .inl x), (2, .inl y)] [] _ _ _
              have b31 : 0 ≤ m24.1 34 0 47 ∧ m24.1 34 0 47 ≤ c := hGm24.1 34 _ rfl _ _
              refine ww_go 4 (pc' := 93) (L' := [(0, .inr (.inr (.inl (some (34, 0))))), (1, .inl x), (2, .inl y)]) (st' := [.inr (.inl (wi2l (m24.1 34 0 47)))]) (m' := m24) (o := some ((0 < 1))) rfl (show (0 < 1) from by omega) ?_
              exact ww_rL rfl rfl ⟨_, rfl, rfl, zB_mono hGm24 (by omega), hFm24, by trivial⟩
          · show wW (zK sc) zM215 48 [(0, .inr (.inr (.inl (some (34, 0))))), (1, .inl x), (2, .inl y)] [] _ _ _
            refine ww_go 1 (pc' := 49) (L' := [(0, .inr (.inr (.inl (some (34, 0))))), (1, .inl x), (2, .inl y)]) (st' := [.inr (.inl (Int64.ofNat 0))]) (m' := m24) (o := none) rfl trivial ?_
            exact ww_rL rfl rfl ⟨_, rfl, rfl, zB_mono hGm24 (by omega), hFm24, by trivial⟩
        · show wW (zK sc) zM215 36 [(0, .inr (.inr (.inl (some (34, 0))))), (1, .inl x), (2, .inl y)] [.inr (.inr (.inl (some (34, 0))))] _ _ _
          refine ww_go 3 (pc' := 42) (L' := [(0, .inr (.inr (.inl (some (34, 0))))), (1, .inl x), (2, .inl y)]) (st' := [.inl 2, .inl 1, .inr (.inr (.inl (some (34, 0))))]) (m' := m6) (o := none) rfl trivial ?_
          refine ww_call (vs := [.inr (.inr (.inl (some (34, 0)))), .inl 1, .inl 2]) (r := []) (p := 0 < 1) rfl rfl rfl rfl (show 0 < 1 from by omega) (zs196 (c := c) (by omega) 1 2 hGm6 (by omega)) ?_
          rintro _ _ m34 ⟨r32, rfl, rfl, hGm34, hEm34, hr33⟩
          have hFm34 : zfr (fun k i j => (k = 34 ∧ j = 0)) m0 m34 := zfr_tr hFm6 hEm34 (fun k i j z => z)
          show wW (zK sc) zM215 45 [(0, .inr (.inr (.inl (some (34, 0))))), (1, .inl x), (2, .inl y)] [.inl r32] _ _ _
          refine ww_if (t := 50) rfl rfl (by omega) (fun (h35 : r32 = 0) => ?_) (fun (h35 : ¬ (r32 = 0)) => ?_)
          · show wW (zK sc) zM215 50 [(0, .inr (.inr (.inl (some (34, 0))))), (1, .inl x), (2, .inl y)] [] _ _ _
            refine ww_go 1 (pc' := 51) (L' := [(0, .inr (.inr (.inl (some (34, 0))))), (1, .inl x), (2, .inl y)]) (st' := [.inl x]) (m' := m34) (o := none) rfl trivial ?_
            refine ww_if (t := 62) rfl rfl (by omega) (fun (h36 : 0 ≤ x) => ?_) (fun (h36 : ¬ (0 ≤ x)) => ?_)
            · show wW (zK sc) zM215 62 [(0, .inr (.inr (.inl (some (34, 0))))), (1, .inl x), (2, .inl y)] [] _ _ _
              refine ww_go 2 (pc' := 64) (L' := [(0, .inr (.inr (.inl (some (34, 0))))), (1, .inl x), (2, .inl y)]) (st' := [.inl 4, .inl y]) (m' := m34) (o := none) rfl trivial ?_
              refine ww_ic (t := 79) rfl rfl (by omega) (fun (h37 : y ≠ 4) => ?_) (fun (h37 : ¬ (y ≠ 4)) => ?_)
              · show wW (zK sc) zM215 79 [(0, .inr (.inr (.inl (some (34, 0))))), (1, .inl x), (2, .inl y)] [] _ _ _
                have t38 : (0 ≤ x → x.tmod 30 = x % 30) ∧ (x < 0 → x.tmod 30 = -((-x) % 30)) := ⟨fun z => Int.tmod_eq_emod_of_nonneg z, fun z => wtmod_neg z⟩
                have b39 : 0 ≤ m34.1 71 0 (((4 * (x.tmod 30)) + y).toNat) ∧ m34.1 71 0 (((4 * (x.tmod 30)) + y).toNat) ≤ 65535 := hGm34.1 71 _ rfl _ _
                refine ww_go 11 (pc' := 93) (L' := [(0, .inr (.inr (.inl (some (34, 0))))), (1, .inl x), (2, .inl y)]) (st' := [.inr (.inl (wi2l (m34.1 71 0 (((4 * (x.tmod 30)) + y).toNat))))]) (m' := m34) (o := some ((0 < 1) ∧ (-2147483648 ≤ x ∧ x ≤ 2147483647 ∧ 0 < (30 : Int) ∧ (30 : Int) ≤ 2147483647) ∧ (0 < 1 ∧ 0 ≤ (4 * (x.tmod 30)) + y ∧ (4 * (x.tmod 30)) + y < ((120 : Nat) : Int)))) rfl (show (0 < 1) ∧ (-2147483648 ≤ x ∧ x ≤ 2147483647 ∧ 0 < (30 : Int) ∧ (30 : Int) ≤ 2147483647) ∧ (0 < 1 ∧ 0 ≤ (4 * (x.tmod 30)) + y ∧ (4 * (x.tmod 30)) + y < ((120 : Nat) : Int)) from by omega) ?_
                exact ww_rL rfl rfl ⟨_, rfl, rfl, zB_mono hGm34 (by omega), hFm34, by trivial⟩
              · show wW (zK sc) zM215 67 [(0, .inr (.inr (.inl (some (34, 0))))), (1, .inl x), (2, .inl y)] [] _ _ _
                have t40 : (0 ≤ x → x.tmod 30 = x % 30) ∧ (x < 0 → x.tmod 30 = -((-x) % 30)) := ⟨fun z => Int.tmod_eq_emod_of_nonneg z, fun z => wtmod_neg z⟩
                refine ww_go 7 (pc' := 93) (L' := [(0, .inr (.inr (.inl (some (34, 0))))), (1, .inl x), (2, .inl y)]) (st' := [.inr (.inl (m34.2.1 72 0 ((x.tmod 30).toNat)))]) (m' := m34) (o := some ((0 < 1) ∧ (-2147483648 ≤ x ∧ x ≤ 2147483647 ∧ 0 < (30 : Int) ∧ (30 : Int) ≤ 2147483647) ∧ (0 < 1 ∧ 0 ≤ x.tmod 30 ∧ x.tmod 30 < ((30 : Nat) : Int)))) rfl (show (0 < 1) ∧ (-2147483648 ≤ x ∧ x ≤ 2147483647 ∧ 0 < (30 : Int) ∧ (30 : Int) ≤ 2147483647) ∧ (0 < 1 ∧ 0 ≤ x.tmod 30 ∧ x.tmod 30 < ((30 : Nat) : Int)) from by omega) ?_
                exact ww_rL rfl rfl ⟨_, rfl, rfl, zB_mono hGm34 (by omega), hFm34, by trivial⟩
            · show wW (zK sc) zM215 54 [(0, .inr (.inr (.inl (some (34, 0))))), (1, .inl x), (2, .inl y)] [] _ _ _
              have b41 : 0 ≤ m34.1 34 0 47 ∧ m34.1 34 0 47 ≤ c := hGm34.1 34 _ rfl _ _
              refine ww_go 4 (pc' := 93) (L' := [(0, .inr (.inr (.inl (some (34, 0))))), (1, .inl x), (2, .inl y)]) (st' := [.inr (.inl (wi2l (m34.1 34 0 47)))]) (m' := m34) (o := some ((0 < 1))) rfl (show (0 < 1) from by omega) ?_
              exact ww_rL rfl rfl ⟨_, rfl, rfl, zB_mono hGm34 (by omega), hFm34, by trivial⟩
          · show wW (zK sc) zM215 48 [(0, .inr (.inr (.inl (some (34, 0))))), (1, .inl x), (2, .inl y)] [] _ _ _
            refine ww_go 1 (pc' := 49) (L' := [(0, .inr (.inr (.inl (some (34, 0))))), (1, .inl x), (2, .inl y)]) (st' := [.inr (.inl (Int64.ofNat 0))]) (m' := m34) (o := none) rfl trivial ?_
            exact ww_rL rfl rfl ⟨_, rfl, rfl, zB_mono hGm34 (by omega), hFm34, by trivial⟩
  · show wW (zK sc) zM215 10 [(0, .inr (.inr (.inl (some (34, 0))))), (1, .inl x), (2, .inl y)] [.inr (.inr (.inl (some (34, 0))))] _ _ _
    refine ww_go 3 (pc' := 16) (L' := [(0, .inr (.inr (.inl (some (34, 0))))), (1, .inl x), (2, .inl y)]) (st' := [.inl 1, .inl 1, .inr (.inr (.inl (some (34, 0))))]) (m' := m0) (o := none) rfl trivial ?_
    refine ww_call (vs := [.inr (.inr (.inl (some (34, 0)))), .inl 1, .inl 1]) (r := []) (p := 0 < 1) rfl rfl rfl rfl (show 0 < 1 from by omega) (zs196 (c := c) (by omega) 1 1 hG (by omega)) ?_
    rintro _ _ m44 ⟨r42, rfl, rfl, hGm44, hEm44, hr43⟩
    have hFm44 : zfr (fun k i j => (k = 34 ∧ j = 0)) m0 m44 := zfr_tr hF hEm44 (fun k i j z => z)
    show wW (zK sc) zM215 19 [(0, .inr (.inr (.inl (some (34, 0))))), (1, .inl x), (2, .inl y)] [.inl r42] _ _ _
    refine ww_if (t := 48) rfl rfl (by omega) (fun (h45 : r42 ≠ 0) => ?_) (fun (h45 : ¬ (r42 ≠ 0)) => ?_)
    · show wW (zK sc) zM215 48 [(0, .inr (.inr (.inl (some (34, 0))))), (1, .inl x), (2, .inl y)] [] _ _ _
      refine ww_go 1 (pc' := 49) (L' := [(0, .inr (.inr (.inl (some (34, 0))))), (1, .inl x), (2, .inl y)]) (st' := [.inr (.inl (Int64.ofNat 0))]) (m' := m44) (o := none) rfl trivial ?_
      exact ww_rL rfl rfl ⟨_, rfl, rfl, zB_mono hGm44 (by omega), hFm44, by trivial⟩
    · show wW (zK sc) zM215 22 [(0, .inr (.inr (.inl (some (34, 0))))), (1, .inl x), (2, .inl y)] [] _ _ _
      refine ww_go 3 (pc' := 25) (L' := [(0, .inr (.inr (.inl (some (34, 0))))), (1, .inl x), (2, .inl y)]) (st' := [.inl ((-1)), .inl x, .inr (.inr (.inl (some (34, 0))))]) (m' := m44) (o := none) rfl trivial ?_
      refine ww_ic (t := 40) rfl rfl (by omega) (fun (h46 : x = (-1)) => ?_) (fun (h46 : ¬ (x = (-1))) => ?_)
      · show wW (zK sc) zM215 40 [(0, .inr (.inr (.inl (some (34, 0))))), (1, .inl x), (2, .inl y)] [.inr (.inr (.inl (some (34, 0))))] _ _ _
        refine ww_go 2 (pc' := 42) (L' := [(0, .inr (.inr (.inl (some (34, 0))))), (1, .inl x), (2, .inl y)]) (st' := [.inl 2, .inl 0, .inr (.inr (.inl (some (34, 0))))]) (m' := m44) (o := none) rfl trivial ?_
        refine ww_call (vs := [.inr (.inr (.inl (some (34, 0)))), .inl 0, .inl 2]) (r := []) (p := 0 < 1) rfl rfl rfl rfl (show 0 < 1 from by omega) (zs196 (c := c) (by omega) 0 2 hGm44 (by omega)) ?_
        rintro _ _ m49 ⟨r47, rfl, rfl, hGm49, hEm49, hr48⟩
        have hFm49 : zfr (fun k i j => (k = 34 ∧ j = 0)) m0 m49 := zfr_tr hFm44 hEm49 (fun k i j z => z)
        show wW (zK sc) zM215 45 [(0, .inr (.inr (.inl (some (34, 0))))), (1, .inl x), (2, .inl y)] [.inl r47] _ _ _
        refine ww_if (t := 50) rfl rfl (by omega) (fun (h50 : r47 = 0) => ?_) (fun (h50 : ¬ (r47 = 0)) => ?_)
        · show wW (zK sc) zM215 50 [(0, .inr (.inr (.inl (some (34, 0))))), (1, .inl x), (2, .inl y)] [] _ _ _
          refine ww_go 1 (pc' := 51) (L' := [(0, .inr (.inr (.inl (some (34, 0))))), (1, .inl x), (2, .inl y)]) (st' := [.inl x]) (m' := m49) (o := none) rfl trivial ?_
          refine ww_if (t := 62) rfl rfl (by omega) (fun (h51 : 0 ≤ x) => ?_) (fun (h51 : ¬ (0 ≤ x)) => ?_)
          · show wW (zK sc) zM215 62 [(0, .inr (.inr (.inl (some (34, 0))))), (1, .inl x), (2, .inl y)] [] _ _ _
            refine ww_go 2 (pc' := 64) (L' := [(0, .inr (.inr (.inl (some (34, 0))))), (1, .inl x), (2, .inl y)]) (st' := [.inl 4, .inl y]) (m' := m49) (o := none) rfl trivial ?_
            refine ww_ic (t := 79) rfl rfl (by omega) (fun (h52 : y ≠ 4) => ?_) (fun (h52 : ¬ (y ≠ 4)) => ?_)
            · show wW (zK sc) zM215 79 [(0, .inr (.inr (.inl (some (34, 0))))), (1, .inl x), (2, .inl y)] [] _ _ _
              have t53 : (0 ≤ x → x.tmod 30 = x % 30) ∧ (x < 0 → x.tmod 30 = -((-x) % 30)) := ⟨fun z => Int.tmod_eq_emod_of_nonneg z, fun z => wtmod_neg z⟩
              have b54 : 0 ≤ m49.1 71 0 (((4 * (x.tmod 30)) + y).toNat) ∧ m49.1 71 0 (((4 * (x.tmod 30)) + y).toNat) ≤ 65535 := hGm49.1 71 _ rfl _ _
              refine ww_go 11 (pc' := 93) (L' := [(0, .inr (.inr (.inl (some (34, 0))))), (1, .inl x), (2, .inl y)]) (st' := [.inr (.inl (wi2l (m49.1 71 0 (((4 * (x.tmod 30)) + y).toNat))))]) (m' := m49) (o := some ((0 < 1) ∧ (-2147483648 ≤ x ∧ x ≤ 2147483647 ∧ 0 < (30 : Int) ∧ (30 : Int) ≤ 2147483647) ∧ (0 < 1 ∧ 0 ≤ (4 * (x.tmod 30)) + y ∧ (4 * (x.tmod 30)) + y < ((120 : Nat) : Int)))) rfl (show (0 < 1) ∧ (-2147483648 ≤ x ∧ x ≤ 2147483647 ∧ 0 < (30 : Int) ∧ (30 : Int) ≤ 2147483647) ∧ (0 < 1 ∧ 0 ≤ (4 * (x.tmod 30)) + y ∧ (4 * (x.tmod 30)) + y < ((120 : Nat) : Int)) from by omega) ?_
              exact ww_rL rfl rfl ⟨_, rfl, rfl, zB_mono hGm49 (by omega), hFm49, by trivial⟩
            · show wW (zK sc) zM215 67 [(0, .inr (.inr (.inl (some (34, 0))))), (1, .inl x), (2, .inl y)] [] _ _ _
              have t55 : (0 ≤ x → x.tmod 30 = x % 30) ∧ (x < 0 → x.tmod 30 = -((-x) % 30)) := ⟨fun z => Int.tmod_eq_emod_of_nonneg z, fun z => wtmod_neg z⟩
              refine ww_go 7 (pc' := 93) (L' := [(0, .inr (.inr (.inl (some (34, 0))))), (1, .inl x), (2, .inl y)]) (st' := [.inr (.inl (m49.2.1 72 0 ((x.tmod 30).toNat)))]) (m' := m49) (o := some ((0 < 1) ∧ (-2147483648 ≤ x ∧ x ≤ 2147483647 ∧ 0 < (30 : Int) ∧ (30 : Int) ≤ 2147483647) ∧ (0 < 1 ∧ 0 ≤ x.tmod 30 ∧ x.tmod 30 < ((30 : Nat) : Int)))) rfl (show (0 < 1) ∧ (-2147483648 ≤ x ∧ x ≤ 2147483647 ∧ 0 < (30 : Int) ∧ (30 : Int) ≤ 2147483647) ∧ (0 < 1 ∧ 0 ≤ x.tmod 30 ∧ x.tmod 30 < ((30 : Nat) : Int)) from by omega) ?_
              exact ww_rL rfl rfl ⟨_, rfl, rfl, zB_mono hGm49 (by omega), hFm49, by trivial⟩
          · show wW (zK sc) zM215 54 [(0, .inr (.inr (.inl (some (34, 0))))), (1, .inl x), (2, .inl y)] [] _ _ _
            have b56 : 0 ≤ m49.1 34 0 47 ∧ m49.1 34 0 47 ≤ c := hGm49.1 34 _ rfl _ _
            refine ww_go 4 (pc' := 93) (L' := [(0, .inr (.inr (.inl (some (34, 0))))), (1, .inl x), (2, .inl y)]) (st' := [.inr (.inl (wi2l (m49.1 34 0 47)))]) (m' := m49) (o := some ((0 < 1))) rfl (show (0 < 1) from by omega) ?_
            exact ww_rL rfl rfl ⟨_, rfl, rfl, zB_mono hGm49 (by omega), hFm49, by trivial⟩
        · show wW (zK sc) zM215 48 [(0, .inr (.inr (.inl (some (34, 0))))), (1, .inl x), (2, .inl y)] [] _ _ _
          refine ww_go 1 (pc' := 49) (L' := [(0, .inr (.inr (.inl (some (34, 0))))), (1, .inl x), (2, .inl y)]) (st' := [.inr (.inl (Int64.ofNat 0))]) (m' := m49) (o := none) rfl trivial ?_
          exact ww_rL rfl rfl ⟨_, rfl, rfl, zB_mono hGm49 (by omega), hFm49, by trivial⟩
      · show wW (zK sc) zM215 28 [(0, .inr (.inr (.inl (some (34, 0))))), (1, .inl x), (2, .inl y)] [.inr (.inr (.inl (some (34, 0))))] _ _ _
        refine ww_go 2 (pc' := 30) (L' := [(0, .inr (.inr (.inl (some (34, 0))))), (1, .inl x), (2, .inl y)]) (st' := [.inl x, .inr (.inr (.inl (some (34, 0)))), .inr (.inr (.inl (some (34, 0))))]) (m' := m44) (o := none) rfl trivial ?_
        refine ww_call (vs := [.inr (.inr (.inl (some (34, 0)))), .inl x]) (r := [.inr (.inr (.inl (some (34, 0))))]) (p := 0 < 1) rfl rfl rfl rfl (show 0 < 1 from by omega) (zs210 (c := c) (by omega) x hGm44 (by omega)) ?_
        rintro _ _ _ ⟨r57, rfl, rfl, rfl, hr58⟩
        show wW (zK sc) zM215 33 [(0, .inr (.inr (.inl (some (34, 0))))), (1, .inl x), (2, .inl y)] [.inl r57, .inr (.inr (.inl (some (34, 0))))] _ _ _
        refine ww_if (t := 40) rfl rfl (by omega) (fun (h59 : r57 ≠ 0) => ?_) (fun (h59 : ¬ (r57 ≠ 0)) => ?_)
        · show wW (zK sc) zM215 40 [(0, .inr (.inr (.inl (some (34, 0))))), (1, .inl x), (2, .inl y)] [.inr (.inr (.inl (some (34, 0))))] _ _ _
          refine ww_go 2 (pc' := 42) (L' := [(0, .inr (.inr (.inl (some (34, 0))))), (1, .inl x), (2, .inl y)]) (st' := [.inl 2, .inl 0, .inr (.inr (.inl (some (34, 0))))]) (m' := m44) (o := none) rfl trivial ?_
          refine ww_call (vs := [.inr (.inr (.inl (some (34, 0)))), .inl 0, .inl 2]) (r := []) (p := 0 < 1) rfl rfl rfl rfl (show 0 < 1 from by omega) (zs196 (c := c) (by omega) 0 2 hGm44 (by omega)) ?_
          rintro _ _ m62 ⟨r60, rfl, rfl, hGm62, hEm62, hr61⟩
          have hFm62 : zfr (fun k i j => (k = 34 ∧ j = 0)) m0 m62 := zfr_tr hFm44 hEm62 (fun k i j z => z)
          show wW (zK sc) zM215 45 [(0, .inr (.inr (.inl (some (34, 0))))), (1, .inl x), (2, .inl y)] [.inl r60] _ _ _
          refine ww_if (t := 50) rfl rfl (by omega) (fun (h63 : r60 = 0) => ?_) (fun (h63 : ¬ (r60 = 0)) => ?_)
          · show wW (zK sc) zM215 50 [(0, .inr (.inr (.inl (some (34, 0))))), (1, .inl x), (2, .inl y)] [] _ _ _
            refine ww_go 1 (pc' := 51) (L' := [(0, .inr (.inr (.inl (some (34, 0))))), (1, .inl x), (2, .inl y)]) (st' := [.inl x]) (m' := m62) (o := none) rfl trivial ?_
            refine ww_if (t := 62) rfl rfl (by omega) (fun (h64 : 0 ≤ x) => ?_) (fun (h64 : ¬ (0 ≤ x)) => ?_)
            · show wW (zK sc) zM215 62 [(0, .inr (.inr (.inl (some (34, 0))))), (1, .inl x), (2, .inl y)] [] _ _ _
              refine ww_go 2 (pc' := 64) (L' := [(0, .inr (.inr (.inl (some (34, 0))))), (1, .inl x), (2, .inl y)]) (st' := [.inl 4, .inl y]) (m' := m62) (o := none) rfl trivial ?_
              refine ww_ic (t := 79) rfl rfl (by omega) (fun (h65 : y ≠ 4) => ?_) (fun (h65 : ¬ (y ≠ 4)) => ?_)
              · show wW (zK sc) zM215 79 [(0, .inr (.inr (.inl (some (34, 0))))), (1, .inl x), (2, .inl y)] [] _ _ _
                have t66 : (0 ≤ x → x.tmod 30 = x % 30) ∧ (x < 0 → x.tmod 30 = -((-x) % 30)) := ⟨fun z => Int.tmod_eq_emod_of_nonneg z, fun z => wtmod_neg z⟩
                have b67 : 0 ≤ m62.1 71 0 (((4 * (x.tmod 30)) + y).toNat) ∧ m62.1 71 0 (((4 * (x.tmod 30)) + y).toNat) ≤ 65535 := hGm62.1 71 _ rfl _ _
                refine ww_go 11 (pc' := 93) (L' := [(0, .inr (.inr (.inl (some (34, 0))))), (1, .inl x), (2, .inl y)]) (st' := [.inr (.inl (wi2l (m62.1 71 0 (((4 * (x.tmod 30)) + y).toNat))))]) (m' := m62) (o := some ((0 < 1) ∧ (-2147483648 ≤ x ∧ x ≤ 2147483647 ∧ 0 < (30 : Int) ∧ (30 : Int) ≤ 2147483647) ∧ (0 < 1 ∧ 0 ≤ (4 * (x.tmod 30)) + y ∧ (4 * (x.tmod 30)) + y < ((120 : Nat) : Int)))) rfl (show (0 < 1) ∧ (-2147483648 ≤ x ∧ x ≤ 2147483647 ∧ 0 < (30 : Int) ∧ (30 : Int) ≤ 2147483647) ∧ (0 < 1 ∧ 0 ≤ (4 * (x.tmod 30)) + y ∧ (4 * (x.tmod 30)) + y < ((120 : Nat) : Int)) from by omega) ?_
                exact ww_rL rfl rfl ⟨_, rfl, rfl, zB_mono hGm62 (by omega), hFm62, by trivial⟩
              · show wW (zK sc) zM215 67 [(0, .inr (.inr (.inl (some (34, 0))))), (1, .inl x), (2, .inl y)] [] _ _ _
                have t68 : (0 ≤ x → x.tmod 30 = x % 30) ∧ (x < 0 → x.tmod 30 = -((-x) % 30)) := ⟨fun z => Int.tmod_eq_emod_of_nonneg z, fun z => wtmod_neg z⟩
                refine ww_go 7 (pc' := 93) (L' := [(0, .inr (.inr (.inl (some (34, 0))))), (1, .inl x), (2, .inl y)]) (st' := [.inr (.inl (m62.2.1 72 0 ((x.tmod 30).toNat)))]) (m' := m62) (o := some ((0 < 1) ∧ (-2147483648 ≤ x ∧ x ≤ 2147483647 ∧ 0 < (30 : Int) ∧ (30 : Int) ≤ 2147483647) ∧ (0 < 1 ∧ 0 ≤ x.tmod 30 ∧ x.tmod 30 < ((30 : Nat) : Int)))) rfl (show (0 < 1) ∧ (-2147483648 ≤ x ∧ x ≤ 2147483647 ∧ 0 < (30 : Int) ∧ (30 : Int) ≤ 2147483647) ∧ (0 < 1 ∧ 0 ≤ x.tmod 30 ∧ x.tmod 30 < ((30 : Nat) : Int)) from by omega) ?_
                exact ww_rL rfl rfl ⟨_, rfl, rfl, zB_mono hGm62 (by omega), hFm62, by trivial⟩
            · show wW (zK sc) zM215 54 [(0, .inr (.inr (.inl (some (34, 0))))), (1, .inl x), (2, .inl y)] [] _ _ _
              have b69 : 0 ≤ m62.1 34 0 47 ∧ m62.1 34 0 47 ≤ c := hGm62.1 34 _ rfl _ _
              refine ww_go 4 (pc' := 93) (L' := [(0, .inr (.inr (.inl (some (34, 0))))), (1, .inl x), (2, .inl y)]) (st' := [.inr (.inl (wi2l (m62.1 34 0 47)))]) (m' := m62) (o := some ((0 < 1))) rfl (show (0 < 1) from by omega) ?_
              exact ww_rL rfl rfl ⟨_, rfl, rfl, zB_mono hGm62 (by omega), hFm62, by trivial⟩
          · show wW (zK sc) zM215 48 [(0, .inr (.inr (.inl (some (34, 0))))), (1, .inl x), (2, .inl y)] [] _ _ _
            refine ww_go 1 (pc' := 49) (L' := [(0, .inr (.inr (.inl (some (34, 0))))), (1, .inl x), (2, .inl y)]) (st' := [.inr (.inl (Int64.ofNat 0))]) (m' := m62) (o := none) rfl trivial ?_
            exact ww_rL rfl rfl ⟨_, rfl, rfl, zB_mono hGm62 (by omega), hFm62, by trivial⟩
        · show wW (zK sc) zM215 36 [(0, .inr (.inr (.inl (some (34, 0))))), (1, .inl x), (2, .inl y)] [.inr (.inr (.inl (some (34, 0))))] _ _ _
          refine ww_go 3 (pc' := 42) (L' := [(0, .inr (.inr (.inl (some (34, 0))))), (1, .inl x), (2, .inl y)]) (st' := [.inl 2, .inl 1, .inr (.inr (.inl (some (34, 0))))]) (m' := m44) (o := none) rfl trivial ?_
          refine ww_call (vs := [.inr (.inr (.inl (some (34, 0)))), .inl 1, .inl 2]) (r := []) (p := 0 < 1) rfl rfl rfl rfl (show 0 < 1 from by omega) (zs196 (c := c) (by omega) 1 2 hGm44 (by omega)) ?_
          rintro _ _ m72 ⟨r70, rfl, rfl, hGm72, hEm72, hr71⟩
          have hFm72 : zfr (fun k i j => (k = 34 ∧ j = 0)) m0 m72 := zfr_tr hFm44 hEm72 (fun k i j z => z)
          show wW (zK sc) zM215 45 [(0, .inr (.inr (.inl (some (34, 0))))), (1, .inl x), (2, .inl y)] [.inl r70] _ _ _
          refine ww_if (t := 50) rfl rfl (by omega) (fun (h73 : r70 = 0) => ?_) (fun (h73 : ¬ (r70 = 0)) => ?_)
          · show wW (zK sc) zM215 50 [(0, .inr (.inr (.inl (some (34, 0))))), (1, .inl x), (2, .inl y)] [] _ _ _
            refine ww_go 1 (pc' := 51) (L' := [(0, .inr (.inr (.inl (some (34, 0))))), (1, .inl x), (2, .inl y)]) (st' := [.inl x]) (m' := m72) (o := none) rfl trivial ?_
            refine ww_if (t := 62) rfl rfl (by omega) (fun (h74 : 0 ≤ x) => ?_) (fun (h74 : ¬ (0 ≤ x)) => ?_)
            · show wW (zK sc) zM215 62 [(0, .inr (.inr (.inl (some (34, 0))))), (1, .inl x), (2, .inl y)] [] _ _ _
              refine ww_go 2 (pc' := 64) (L' := [(0, .inr (.inr (.inl (some (34, 0))))), (1, .inl x), (2, .inl y)]) (st' := [.inl 4, .inl y]) (m' := m72) (o := none) rfl trivial ?_
              refine ww_ic (t := 79) rfl rfl (by omega) (fun (h75 : y ≠ 4) => ?_) (fun (h75 : ¬ (y ≠ 4)) => ?_)
              · show wW (zK sc) zM215 79 [(0, .inr (.inr (.inl (some (34, 0))))), (1, .inl x), (2, .inl y)] [] _ _ _
                have t76 : (0 ≤ x → x.tmod 30 = x % 30) ∧ (x < 0 → x.tmod 30 = -((-x) % 30)) := ⟨fun z => Int.tmod_eq_emod_of_nonneg z, fun z => wtmod_neg z⟩
                have b77 : 0 ≤ m72.1 71 0 (((4 * (x.tmod 30)) + y).toNat) ∧ m72.1 71 0 (((4 * (x.tmod 30)) + y).toNat) ≤ 65535 := hGm72.1 71 _ rfl _ _
                refine ww_go 11 (pc' := 93) (L' := [(0, .inr (.inr (.inl (some (34, 0))))), (1, .inl x), (2, .inl y)]) (st' := [.inr (.inl (wi2l (m72.1 71 0 (((4 * (x.tmod 30)) + y).toNat))))]) (m' := m72) (o := some ((0 < 1) ∧ (-2147483648 ≤ x ∧ x ≤ 2147483647 ∧ 0 < (30 : Int) ∧ (30 : Int) ≤ 2147483647) ∧ (0 < 1 ∧ 0 ≤ (4 * (x.tmod 30)) + y ∧ (4 * (x.tmod 30)) + y < ((120 : Nat) : Int)))) rfl (show (0 < 1) ∧ (-2147483648 ≤ x ∧ x ≤ 2147483647 ∧ 0 < (30 : Int) ∧ (30 : Int) ≤ 2147483647) ∧ (0 < 1 ∧ 0 ≤ (4 * (x.tmod 30)) + y ∧ (4 * (x.tmod 30)) + y < ((120 : Nat) : Int)) from by omega) ?_
                exact ww_rL rfl rfl ⟨_, rfl, rfl, zB_mono hGm72 (by omega), hFm72, by trivial⟩
              · show wW (zK sc) zM215 67 [(0, .inr (.inr (.inl (some (34, 0))))), (1, .inl x), (2, .inl y)] [] _ _ _
                have t78 : (0 ≤ x → x.tmod 30 = x % 30) ∧ (x < 0 → x.tmod 30 = -((-x) % 30)) := ⟨fun z => Int.tmod_eq_emod_of_nonneg z, fun z => wtmod_neg z⟩
                refine ww_go 7 (pc' := 93) (L' := [(0, .inr (.inr (.inl (some (34, 0))))), (1, .inl x), (2, .inl y)]) (st' := [.inr (.inl (m72.2.1 72 0 ((x.tmod 30).toNat)))]) (m' := m72) (o := some ((0 < 1) ∧ (-2147483648 ≤ x ∧ x ≤ 2147483647 ∧ 0 < (30 : Int) ∧ (30 : Int) ≤ 2147483647) ∧ (0 < 1 ∧ 0 ≤ x.tmod 30 ∧ x.tmod 30 < ((30 : Nat) : Int)))) rfl (show (0 < 1) ∧ (-2147483648 ≤ x ∧ x ≤ 2147483647 ∧ 0 < (30 : Int) ∧ (30 : Int) ≤ 2147483647) ∧ (0 < 1 ∧ 0 ≤ x.tmod 30 ∧ x.tmod 30 < ((30 : Nat) : Int)) from by omega) ?_
                exact ww_rL rfl rfl ⟨_, rfl, rfl, zB_mono hGm72 (by omega), hFm72, by trivial⟩
            · show wW (zK sc) zM215 54 [(0, .inr (.inr (.inl (some (34, 0))))), (1, .inl x), (2, .inl y)] [] _ _ _
              have b79 : 0 ≤ m72.1 34 0 47 ∧ m72.1 34 0 47 ≤ c := hGm72.1 34 _ rfl _ _
              refine ww_go 4 (pc' := 93) (L' := [(0, .inr (.inr (.inl (some (34, 0))))), (1, .inl x), (2, .inl y)]) (st' := [.inr (.inl (wi2l (m72.1 34 0 47)))]) (m' := m72) (o := some ((0 < 1))) rfl (show (0 < 1) from by omega) ?_
              exact ww_rL rfl rfl ⟨_, rfl, rfl, zB_mono hGm72 (by omega), hFm72, by trivial⟩
          · show wW (zK sc) zM215 48 [(0, .inr (.inr (.inl (some (34, 0))))), (1, .inl x), (2, .inl y)] [] _ _ _
            refine ww_go 1 (pc' := 49) (L' := [(0, .inr (.inr (.inl (some (34, 0))))), (1, .inl x), (2, .inl y)]) (st' := [.inr (.inl (Int64.ofNat 0))]) (m' := m72) (o := none) rfl trivial ?_
            exact ww_rL rfl rfl ⟨_, rfl, rfl, zB_mono hGm72 (by omega), hFm72, by trivial⟩
set_option maxRecDepth 8000 in
/-- Mo.touch -/
theorem zs253 {sc : xSc} {n : Nat × Nat} {m0 : wm} {c : Int} (hc : 0 ≤ c ∧ c ≤ 1000000) (x : Int) (y : Int) (z : Int) (hG : zB c m0) (h0 : -2147483648 ≤ x ∧ x ≤ 2147483647 ∧ -2147483648 ≤ y ∧ y ≤ 2147483647 ∧ -2147483648 ≤ z ∧ z ≤ 2147483647) : wX (zK sc) 253 [.inr (.inr (.inl (some (34, 0)))), .inl x, .inl y, .inl z] n m0 (wr (fun vv n1 m1 => vv = none ∧ n = n1 ∧ zB c m1 ∧ zfr (fun k i j => (k = 34 ∧ j = 0) ∨ (k = 71)) m0 m1 ∧ True)) := by
  refine wX_of (N := zM253) rfl (Nat.le_of_ble_eq_true rfl) ?_
  show wW (zK sc) zM253 0 [(0, .inr (.inr (.inl (some (34, 0))))), (1, .inl x), (2, .inl y), (3, .inl z)] [] n m0 _
  have hF : zfr (fun k i j => (k = 34 ∧ j = 0) ∨ (k = 71)) m0 m0 := zfr_rf
  refine ww_go 4 (pc' := 4) (L' := [(0, .inr (.inr (.inl (some (34, 0))))), (1, .inl x), (2, .inl y), (3, .inl z)]) (st' := [.inl 3, .inl 0, .inl y, .inr (.inr (.inl (some (34, 0))))]) (m' := m0) (o := none) rfl trivial ?_
  refine ww_call (vs := [.inl y, .inl 0, .inl 3]) (r := [.inr (.inr (.inl (some (34, 0))))]) (p := True) rfl rfl rfl rfl trivial (zs207 y 0 3 (by omega)) ?_
  rintro _ _ _ ⟨r1, rfl, rfl, rfl, hr2⟩
  show wW (zK sc) zM253 7 [(0, .inr (.inr (.inl (some (34, 0))))), (1, .inl x), (2, .inl y), (3, .inl z)] [.inl r1, .inr (.inr (.inl (some (34, 0))))] _ _ _
  refine ww_if (t := 14) rfl rfl (by omega) (fun (h3 : r1 ≠ 0) => ?_) (fun (h3 : ¬ (r1 ≠ 0)) => ?_)
  · show wW (zK sc) zM253 14 [(0, .inr (.inr (.inl (some (34, 0))))), (1, .inl x), (2, .inl y), (3, .inl z)] [.inr (.inr (.inl (some (34, 0))))] _ _ _
    refine ww_go 2 (pc' := 16) (L' := [(0, .inr (.inr (.inl (some (34, 0))))), (1, .inl x), (2, .inl y), (3, .inl z)]) (st' := [.inl 1, .inl 0, .inr (.inr (.inl (some (34, 0))))]) (m' := m0) (o := none) rfl trivial ?_
    refine ww_call (vs := [.inr (.inr (.inl (some (34, 0)))), .inl 0, .inl 1]) (r := []) (p := 0 < 1) rfl rfl rfl rfl (show 0 < 1 from by omega) (zs196 (c := c) (by omega) 0 1 hG (by omega)) ?_
    rintro _ _ m6 ⟨r4, rfl, rfl, hGm6, hEm6, hr5⟩
    have hFm6 : zfr (fun k i j => (k = 34 ∧ j = 0) ∨ (k = 71)) m0 m6 := zfr_tr hF hEm6 (fun k i j z => Or.inl z)
    show wW (zK sc) zM253 19 [(0, .inr (.inr (.inl (some (34, 0))))), (1, .inl x), (2, .inl y), (3, .inl z)] [.inl r4] _ _ _
    refine ww_if (t := 64) rfl rfl (by omega) (fun (h7 : r4 ≠ 0) => ?_) (fun (h7 : ¬ (r4 ≠ 0)) => ?_)
    · show wW (zK sc) zM253 64 [(0, .inr (.inr (.inl (some (34, 0))))), (1, .inl x), (2, .inl y), (3, .inl z)] [] _ _ _
      exact ww_rV rfl rfl ⟨rfl, rfl, zB_mono hGm6 (by omega), hFm6, by trivial⟩
    · show wW (zK sc) zM253 22 [(0, .inr (.inr (.inl (some (34, 0))))), (1, .inl x), (2, .inl y), (3, .inl z)] [] _ _ _
      refine ww_go 3 (pc' := 25) (L' := [(0, .inr (.inr (.inl (some (34, 0))))), (1, .inl x), (2, .inl y), (3, .inl z)]) (st' := [.inl x, .inr (.inr (.inl (some (34, 0)))), .inr (.inr (.inl (some (34, 0))))]) (m' := m6) (o := none) rfl trivial ?_
      refine ww_call (vs := [.inr (.inr (.inl (some (34, 0)))), .inl x]) (r := [.inr (.inr (.inl (some (34, 0))))]) (p := 0 < 1) rfl rfl rfl rfl (show 0 < 1 from by omega) (zs210 (c := c) (by omega) x hGm6 (by omega)) ?_
      rintro _ _ _ ⟨r8, rfl, rfl, rfl, hr9⟩
      show wW (zK sc) zM253 28 [(0, .inr (.inr (.inl (some (34, 0))))), (1, .inl x), (2, .inl y), (3, .inl z)] [.inl r8, .inr (.inr (.inl (some (34, 0))))] _ _ _
      refine ww_if (t := 35) rfl rfl (by omega) (fun (h10 : r8 ≠ 0) => ?_) (fun (h10 : ¬ (r8 ≠ 0)) => ?_)
      · show wW (zK sc) zM253 35 [(0, .inr (.inr (.inl (some (34, 0))))), (1, .inl x), (2, .inl y), (3, .inl z)] [.inr (.inr (.inl (some (34, 0))))] _ _ _
        refine ww_go 2 (pc' := 37) (L' := [(0, .inr (.inr (.inl (some (34, 0))))), (1, .inl x), (2, .inl y), (3, .inl z)]) (st' := [.inl 2, .inl 0, .inr (.inr (.inl (some (34, 0))))]) (m' := m6) (o := none) rfl trivial ?_
        refine ww_call (vs := [.inr (.inr (.inl (some (34, 0)))), .inl 0, .inl 2]) (r := []) (p := 0 < 1) rfl rfl rfl rfl (show 0 < 1 from by omega) (zs196 (c := c) (by omega) 0 2 hGm6 (by omega)) ?_
        rintro _ _ m13 ⟨r11, rfl, rfl, hGm13, hEm13, hr12⟩
        have hFm13 : zfr (fun k i j => (k = 34 ∧ j = 0) ∨ (k = 71)) m0 m13 := zfr_tr hFm6 hEm13 (fun k i j z => Or.inl z)
        show wW (zK sc) zM253 40 [(0, .inr (.inr (.inl (some (34, 0))))), (1, .inl x), (2, .inl y), (3, .inl z)] [.inl r11] _ _ _
        refine ww_if (t := 64) rfl rfl (by omega) (fun (h14 : r11 ≠ 0) => ?_) (fun (h14 : ¬ (r11 ≠ 0)) => ?_)
        · show wW (zK sc) zM253 64 [(0, .inr (.inr (.inl (some (34, 0))))), (1, .inl x), (2, .inl y), (3, .inl z)] [] _ _ _
          exact ww_rV rfl rfl ⟨rfl, rfl, zB_mono hGm13 (by omega), hFm13, by trivial⟩
        · show wW (zK sc) zM253 43 [(0, .inr (.inr (.inl (some (34, 0))))), (1, .inl x), (2, .inl y), (3, .inl z)] [] _ _ _
          have t15 : (0 ≤ x → x.tmod 30 = x % 30) ∧ (x < 0 → x.tmod 30 = -((-x) % 30)) := ⟨fun z => Int.tmod_eq_emod_of_nonneg z, fun z => wtmod_neg z⟩
          have b16 : 0 ≤ m13.1 71 0 (((4 * (x.tmod 30)) + y).toNat) ∧ m13.1 71 0 (((4 * (x.tmod 30)) + y).toNat) ≤ 65535 := hGm13.1 71 _ rfl _ _
          have t17 := wand_rg z 255
          have t18 := wand_m255 z
          have t19 := wxor_rg (m13.1 71 0 (((4 * (x.tmod 30)) + y).toNat)) (wand z 255)
          have t20 : (0 ≤ m13.1 71 0 (((4 * (x.tmod 30)) + y).toNat) ∧ m13.1 71 0 (((4 * (x.tmod 30)) + y).toNat) ≤ 255 ∧ 0 ≤ wand z 255 ∧ wand z 255 ≤ 255) → (0 ≤ wxor (m13.1 71 0 (((4 * (x.tmod 30)) + y).toNat)) (wand z 255) ∧ wxor (m13.1 71 0 (((4 * (x.tmod 30)) + y).toNat)) (wand z 255) ≤ 255) := fun z => wxor_255 ⟨z.1, z.2.1⟩ z.2.2
          have t21 : (0 ≤ m13.1 71 0 (((4 * (x.tmod 30)) + y).toNat) ∧ m13.1 71 0 (((4 * (x.tmod 30)) + y).toNat) ≤ 65535 ∧ 0 ≤ wand z 255 ∧ wand z 255 ≤ 65535) → (0 ≤ wxor (m13.1 71 0 (((4 * (x.tmod 30)) + y).toNat)) (wand z 255) ∧ wxor (m13.1 71 0 (((4 * (x.tmod 30)) + y).toNat)) (wand z 255) ≤ 65535) := fun z => wxor_65535 ⟨z.1, z.2.1⟩ z.2.2
          have t22 : (0 ≤ m13.1 71 0 (((4 * (x.tmod 30)) + y).toNat) ∧ m13.1 71 0 (((4 * (x.tmod 30)) + y).toNat) ≤ 2147483647 ∧ 0 ≤ wand z 255 ∧ wand z 255 ≤ 2147483647) → (0 ≤ wxor (m13.1 71 0 (((4 * (x.tmod 30)) + y).toNat)) (wand z 255) ∧ wxor (m13.1 71 0 (((4 * (x.tmod 30)) + y).toNat)) (wand z 255) ≤ 2147483647) := fun z => wxor_2147483647 ⟨z.1, z.2.1⟩ z.2.2
          refine ww_go 16 (pc' := 64) (L' := [(0, .inr (.inr (.inl (some (34, 0))))), (1, .inl x), (2, .inl y), (3, .inl z)]) (st' := []) (m' := wuI m13 71 0 (((4 * (x.tmod 30)) + y).toNat) (wxor (m13.1 71 0 (((4 * (x.tmod 30)) + y).toNat)) (wand z 255))) (o := some ((0 < 1) ∧ (-2147483648 ≤ x ∧ x ≤ 2147483647 ∧ 0 < (30 : Int) ∧ (30 : Int) ≤ 2147483647) ∧ (0 < 1 ∧ 0 ≤ (4 * (x.tmod 30)) + y ∧ (4 * (x.tmod 30)) + y < ((120 : Nat) : Int)) ∧ (0 < 1 ∧ 0 ≤ (4 * (x.tmod 30)) + y ∧ (4 * (x.tmod 30)) + y < ((120 : Nat) : Int)))) rfl (show (0 < 1) ∧ (-2147483648 ≤ x ∧ x ≤ 2147483647 ∧ 0 < (30 : Int) ∧ (30 : Int) ≤ 2147483647) ∧ (0 < 1 ∧ 0 ≤ (4 * (x.tmod 30)) + y ∧ (4 * (x.tmod 30)) + y < ((120 : Nat) : Int)) ∧ (0 < 1 ∧ 0 ≤ (4 * (x.tmod 30)) + y ∧ (4 * (x.tmod 30)) + y < ((120 : Nat) : Int)) from by omega) ?_
          obtain ⟨m23, hm23⟩ : ∃ zq9 : wm, zq9 = wuI m13 71 0 (((4 * (x.tmod 30)) + y).toNat) (wxor (m13.1 71 0 (((4 * (x.tmod 30)) + y).toNat)) (wand z 255)) := ⟨_, rfl⟩
          rw [← hm23]
          have hGm23 : zB c m23 := by rw [hm23]; exact zB_wI rfl (show 0 ≤ wxor (m13.1 71 0 (((4 * (x.tmod 30)) + y).toNat)) (wand z 255) ∧ wxor (m13.1 71 0 (((4 * (x.tmod 30)) + y).toNat)) (wand z 255) ≤ 65535 from by omega) hGm13
          have hFm23 : zfr (fun k i j => (k = 34 ∧ j = 0) ∨ (k = 71)) m0 m23 := by rw [hm23]; exact zfr_wI hFm13 (show (71 = 34 ∧ (((4 * (x.tmod 30)) + y).toNat) = 0) ∨ (71 = 71) from Or.inr (rfl))
          have s24 : m23.1 71 0 (((4 * (x.tmod 30)) + y).toNat) = wxor (m13.1 71 0 (((4 * (x.tmod 30)) + y).toNat)) (wand z 255) := by rw [hm23]; exact wuI_self
          exact ww_rV rfl rfl ⟨rfl, rfl, zB_mono hGm23 (by omega), hFm23, by trivial⟩
      · show wW (zK sc) zM253 31 [(0, .inr (.inr (.inl (some (34, 0))))), (1, .inl x), (2, .inl y), (3, .inl z)] [.inr (.inr (.inl (some (34, 0))))] _ _ _
        refine ww_go 3 (pc' := 37) (L' := [(0, .inr (.inr (.inl (some (34, 0))))), (1, .inl x), (2, .inl y), (3, .inl z)]) (st' := [.inl 2, .inl 1, .inr (.inr (.inl (some (34, 0))))]) (m' := m6) (o := none) rfl trivial ?_
        refine ww_call (vs := [.inr (.inr (.inl (some (34, 0)))), .inl 1, .inl 2]) (r := []) (p := 0 < 1) rfl rfl rfl rfl (show 0 < 1 from by omega) (zs196 (c := c) (by omega) 1 2 hGm6 (by omega)) ?_
        rintro _ _ m27 ⟨r25, rfl, rfl, hGm27, hEm27, hr26⟩
        have hFm27 : zfr (fun k i j => (k = 34 ∧ j = 0) ∨ (k = 71)) m0 m27 := zfr_tr hFm6 hEm27 (fun k i j z => Or.inl z)
        show wW (zK sc) zM253 40 [(0, .inr (.inr (.inl (some (34, 0))))), (1, .inl x), (2, .inl y), (3, .inl z)] [.inl r25] _ _ _
        refine ww_if (t := 64) rfl rfl (by omega) (fun (h28 : r25 ≠ 0) => ?_) (fun (h28 : ¬ (r25 ≠ 0)) => ?_)
        · show wW (zK sc) zM253 64 [(0, .inr (.inr (.inl (some (34, 0))))), (1, .inl x), (2, .inl y), (3, .inl z)] [] _ _ _
          exact ww_rV rfl rfl ⟨rfl, rfl, zB_mono hGm27 (by omega), hFm27, by trivial⟩
        · show wW (zK sc) zM253 43 [(0, .inr (.inr (.inl (some (34, 0))))), (1, .inl x), (2, .inl y), (3, .inl z)] [] _ _ _
          have t29 : (0 ≤ x → x.tmod 30 = x % 30) ∧ (x < 0 → x.tmod 30 = -((-x) % 30)) := ⟨fun z => Int.tmod_eq_emod_of_nonneg z, fun z => wtmod_neg z⟩
          have b30 : 0 ≤ m27.1 71 0 (((4 * (x.tmod 30)) + y).toNat) ∧ m27.1 71 0 (((4 * (x.tmod 30)) + y).toNat) ≤ 65535 := hGm27.1 71 _ rfl _ _
          have t31 := wand_rg z 255
          have t32 := wand_m255 z
          have t33 := wxor_rg (m27.1 71 0 (((4 * (x.tmod 30)) + y).toNat)) (wand z 255)
          have t34 : (0 ≤ m27.1 71 0 (((4 * (x.tmod 30)) + y).toNat) ∧ m27.1 71 0 (((4 * (x.tmod 30)) + y).toNat) ≤ 255 ∧ 0 ≤ wand z 255 ∧ wand z 255 ≤ 255) → (0 ≤ wxor (m27.1 71 0 (((4 * (x.tmod 30)) + y).toNat)) (wand z 255) ∧ wxor (m27.1 71 0 (((4 * (x.tmod 30)) + y).toNat)) (wand z 255) ≤ 255) := fun z => wxor_255 ⟨z.1, z.2.1⟩ z.2.2
          have t35 : (0 ≤ m27.1 71 0 (((4 * (x.tmod 30)) + y).toNat) ∧ m27.1 71 0 (((4 * (x.tmod 30)) + y).toNat) ≤ 65535 ∧ 0 ≤ wand z 255 ∧ wand z 255 ≤ 65535) → (0 ≤ wxor (m27.1 71 0 (((4 * (x.tmod 30)) + y).toNat)) (wand z 255) ∧ wxor (m27.1 71 0 (((4 * (x.tmod 30)) + y).toNat)) (wand z 255) ≤ 65535) := fun z => wxor_65535 ⟨z.1, z.2.1⟩ z.2.2
          have t36 : (0 ≤ m27.1 71 0 (((4 * (x.tmod 30)) + y).toNat) ∧ m27.1 71 0 (((4 * (x.tmod 30)) + y).toNat) ≤ 2147483647 ∧ 0 ≤ wand z 255 ∧ wand z 255 ≤ 2147483647) → (0 ≤ wxor (m27.1 71 0 (((4 * (x.tmod 30)) + y).toNat)) (wand z 255) ∧ wxor (m27.1 71 0 (((4 * (x.tmod 30)) + y).toNat)) (wand z 255) ≤ 2147483647) := fun z => wxor_2147483647 ⟨z.1, z.2.1⟩ z.2.2
          refine ww_go 16 (pc' := 64) (L' := [(0, .inr (.inr (.inl (some (34, 0))))), (1, .inl x), (2, .inl y), (3, .inl z)]) (st' := []) (m' := wuI m27 71 0 (((4 * (x.tmod 30)) + y).toNat) (wxor (m27.1 71 0 (((4 * (x.tmod 30)) + y).toNat)) (wand z 255))) (o := some ((0 < 1) ∧ (-2147483648 ≤ x ∧ x ≤ 2147483647 ∧ 0 < (30 : Int) ∧ (30 : Int) ≤ 2147483647) ∧ (0 < 1 ∧ 0 ≤ (4 * (x.tmod 30)) + y ∧ (4 * (x.tmod 30)) + y < ((120 : Nat) : Int)) ∧ (0 < 1 ∧ 0 ≤ (4 * (x.tmod 30)) + y ∧ (4 * (x.tmod 30)) + y < ((120 : Nat) : Int)))) rfl (show (0 < 1) ∧ (-2147483648 ≤ x ∧ x ≤ 2147483647 ∧ 0 < (30 : Int) ∧ (30 : Int) ≤ 2147483647) ∧ (0 < 1 ∧ 0 ≤ (4 * (x.tmod 30)) + y ∧ (4 * (x.tmod 30)) + y < ((120 : Nat) : Int)) ∧ (0 < 1 ∧ 0 ≤ (4 * (x.tmod 30)) + y ∧ (4 * (x.tmod 30)) + y < ((120 : Nat) : Int)) from by omega) ?_
          obtain ⟨m37, hm37⟩ : ∃ zq9 : wm, zq9 = wuI m27 71 0 (((4 * (x.tmod 30)) + y).toNat) (wxor (m27.1 71 0 (((4 * (x.tmod 30)) + y).toNat)) (wand z 255)) := ⟨_, rfl⟩
          rw [← hm37]
          have hGm37 : zB c m37 := by rw [hm37]; exact zB_wI rfl (show 0 ≤ wxor (m27.1 71 0 (((4 * (x.tmod 30)) + y).toNat)) (wand z 255) ∧ wxor (m27.1 71 0 (((4 * (x.tmod 30)) + y).toNat)) (wand z 255) ≤ 65535 from by omega) hGm27
          have hFm37 : zfr (fun k i j => (k = 34 ∧ j = 0) ∨ (k = 71)) m0 m37 := by rw [hm37]; exact zfr_wI hFm27 (show (71 = 34 ∧ (((4 * (x.tmod 30)) + y).toNat) = 0) ∨ (71 = 71) from Or.inr (rfl))
          have s38 : m37.1 71 0 (((4 * (x.tmod 30)) + y).toNat) = wxor (m27.1 71 0 (((4 * (x.tmod 30)) + y).toNat)) (wand z 255) := by rw [hm37]; exact wuI_self
          exact ww_rV rfl rfl ⟨rfl, rfl, zB_mono hGm37 (by omega), hFm37, by trivial⟩
  · show wW (zK sc) zM253 10 [(0, .inr (.inr (.inl (some (34, 0))))), (1, .inl x), (2, .inl y), (3, .inl z)] [.inr (.inr (.inl (some (34, 0))))] _ _ _
    refine ww_go 3 (pc' := 16) (L' := [(0, .inr (.inr (.inl (some (34, 0))))), (1, .inl x), (2, .inl y), (3, .inl z)]) (st' := [.inl 1, .inl 1, .inr (.inr (.inl (some (34, 0))))]) (m' := m0) (o := none) rfl trivial ?_
    refine ww_call (vs := [.inr (.inr (.inl (some (34, 0)))), .inl 1, .inl 1]) (r := []) (p := 0 < 1) rfl rfl rfl rfl (show 0 < 1 from by omega) (zs196 (c := c) (by omega) 1 1 hG (by omega)) ?_
    rintro _ _ m41 ⟨r39, rfl, rfl, hGm41, hEm41, hr40⟩
    have hFm41 : zfr (fun k i j => (k = 34 ∧ j = 0) ∨ (k = 71)) m0 m41 := zfr_tr hF hEm41 (fun k i j z => Or.inl z)
    show wW (zK sc) zM253 19 [(0, .inr (.inr (.inl (some (34, 0))))), (1, .inl x), (2, .inl y), (3, .inl z)] [.inl r39] _ _ _
    refine ww_if (t := 64) rfl rfl (by omega) (fun (h42 : r39 ≠ 0) => ?_) (fun (h42 : ¬ (r39 ≠ 0)) => ?_)
    · show wW (zK sc) zM253 64 [(0, .inr (.inr (.inl (some (34, 0))))), (1, .inl x), (2, .inl y), (3, .inl z)] [] _ _ _
      exact ww_rV rfl rfl ⟨rfl, rfl, zB_mono hGm41 (by omega), hFm41, by trivial⟩
    · show wW (zK sc) zM253 22 [(0, .inr (.inr (.inl (some (34, 0))))), (1, .inl x), (2, .inl y), (3, .inl z)] [] _ _ _
      refine ww_go 3 (pc' := 25) (L' := [(0, .inr (.inr (.inl (some (34, 0))))), (1, .inl x), (2, .inl y), (3, .inl z)]) (st' := [.inl x, .inr (.inr (.inl (some (34, 0)))), .inr (.inr (.inl (some (34, 0))))]) (m' := m41) (o := none) rfl trivial ?_
      refine ww_call (vs := [.inr (.inr (.inl (some (34, 0)))), .inl x]) (r := [.inr (.inr (.inl (some (34, 0))))]) (p := 0 < 1) rfl rfl rfl rfl (show 0 < 1 from by omega) (zs210 (c := c) (by omega) x hGm41 (by omega)) ?_
      rintro _ _ _ ⟨r43, rfl, rfl, rfl, hr44⟩
      show wW (zK sc) zM253 28 [(0, .inr (.inr (.inl (some (34, 0))))), (1, .inl x), (2, .inl y), (3, .inl z)] [.inl r43, .inr (.inr (.inl (some (34, 0))))] _ _ _
      refine ww_if (t := 35) rfl rfl (by omega) (fun (h45 : r43 ≠ 0) => ?_) (fun (h45 : ¬ (r43 ≠ 0)) => ?_)
      · show wW (zK sc) zM253 35 [(0, .inr (.inr (.inl (some (34, 0))))), (1, .inl x), (2, .inl y), (3, .inl z)] [.inr (.inr (.inl (some (34, 0))))] _ _ _
        refine ww_go 2 (pc' := 37) (L' := [(0, .inr (.inr (.inl (some (34, 0))))), (1, .inl x), (2, .inl y), (3, .inl z)]) (st' := [.inl 2, .inl 0, .inr (.inr (.inl (some (34, 0))))]) (m' := m41) (o := none) rfl trivial ?_
        refine ww_call (vs := [.inr (.inr (.inl (some (34, 0)))), .inl 0, .inl 2]) (r := []) (p := 0 < 1) rfl rfl rfl rfl (show 0 < 1 from by omega) (zs196 (c := c) (by omega) 0 2 hGm41 (by omega)) ?_
        rintro _ _ m48 ⟨r46, rfl, rfl, hGm48, hEm48, hr47⟩
        have hFm48 : zfr (fun k i j => (k = 34 ∧ j = 0) ∨ (k = 71)) m0 m48 := zfr_tr hFm41 hEm48 (fun k i j z => Or.inl z)
        show wW (zK sc) zM253 40 [(0, .inr (.inr (.inl (some (34, 0))))), (1, .inl x), (2, .inl y), (3, .inl z)] [.inl r46] _ _ _
        refine ww_if (t := 64) rfl rfl (by omega) (fun (h49 : r46 ≠ 0) => ?_) (fun (h49 : ¬ (r46 ≠ 0)) => ?_)
        · show wW (zK sc) zM253 64 [(0, .inr (.inr (.inl (some (34, 0))))), (1, .inl x), (2, .inl y), (3, .inl z)] [] _ _ _
          exact ww_rV rfl rfl ⟨rfl, rfl, zB_mono hGm48 (by omega), hFm48, by trivial⟩
        · show wW (zK sc) zM253 43 [(0, .inr (.inr (.inl (some (34, 0))))), (1, .inl x), (2, .inl y), (3, .inl z)] [] _ _ _
          have t50 : (0 ≤ x → x.tmod 30 = x % 30) ∧ (x < 0 → x.tmod 30 = -((-x) % 30)) := ⟨fun z => Int.tmod_eq_emod_of_nonneg z, fun z => wtmod_neg z⟩
          have b51 : 0 ≤ m48.1 71 0 (((4 * (x.tmod 30)) + y).toNat) ∧ m48.1 71 0 (((4 * (x.tmod 30)) + y).toNat) ≤ 65535 := hGm48.1 71 _ rfl _ _
          have t52 := wand_rg z 255
          have t53 := wand_m255 z
          have t54 := wxor_rg (m48.1 71 0 (((4 * (x.tmod 30)) + y).toNat)) (wand z 255)
          have t55 : (0 ≤ m48.1 71 0 (((4 * (x.tmod 30)) + y).toNat) ∧ m48.1 71 0 (((4 * (x.tmod 30)) + y).toNat) ≤ 255 ∧ 0 ≤ wand z 255 ∧ wand z 255 ≤ 255) → (0 ≤ wxor (m48.1 71 0 (((4 * (x.tmod 30)) + y).toNat)) (wand z 255) ∧ wxor (m48.1 71 0 (((4 * (x.tmod 30)) + y).toNat)) (wand z 255) ≤ 255) := fun z => wxor_255 ⟨z.1, z.2.1⟩ z.2.2
          have t56 : (0 ≤ m48.1 71 0 (((4 * (x.tmod 30)) + y).toNat) ∧ m48.1 71 0 (((4 * (x.tmod 30)) + y).toNat) ≤ 65535 ∧ 0 ≤ wand z 255 ∧ wand z 255 ≤ 65535) → (0 ≤ wxor (m48.1 71 0 (((4 * (x.tmod 30)) + y).toNat)) (wand z 255) ∧ wxor (m48.1 71 0 (((4 * (x.tmod 30)) + y).toNat)) (wand z 255) ≤ 65535) := fun z => wxor_65535 ⟨z.1, z.2.1⟩ z.2.2
          have t57 : (0 ≤ m48.1 71 0 (((4 * (x.tmod 30)) + y).toNat) ∧ m48.1 71 0 (((4 * (x.tmod 30)) + y).toNat) ≤ 2147483647 ∧ 0 ≤ wand z 255 ∧ wand z 255 ≤ 2147483647) → (0 ≤ wxor (m48.1 71 0 (((4 * (x.tmod 30)) + y).toNat)) (wand z 255) ∧ wxor (m48.1 71 0 (((4 * (x.tmod 30)) + y).toNat)) (wand z 255) ≤ 2147483647) := fun z => wxor_2147483647 ⟨z.1, z.2.1⟩ z.2.2
          refine ww_go 16 (pc' := 64) (L' := [(0, .inr (.inr (.inl (some (34, 0))))), (1, .inl x), (2, .inl y), (3, .inl z)]) (st' := []) (m' := wuI m48 71 0 (((4 * (x.tmod 30)) + y).toNat) (wxor (m48.1 71 0 (((4 * (x.tmod 30)) + y).toNat)) (wand z 255))) (o := some ((0 < 1) ∧ (-2147483648 ≤ x ∧ x ≤ 2147483647 ∧ 0 < (30 : Int) ∧ (30 : Int) ≤ 2147483647) ∧ (0 < 1 ∧ 0 ≤ (4 * (x.tmod 30)) + y ∧ (4 * (x.tmod 30)) + y < ((120 : Nat) : Int)) ∧ (0 < 1 ∧ 0 ≤ (4 * (x.tmod 30)) + y ∧ (4 * (x.tmod 30)) + y < ((120 : Nat) : Int)))) rfl (show (0 < 1) ∧ (-2147483648 ≤ x ∧ x ≤ 2147483647 ∧ 0 < (30 : Int) ∧ (30 : Int) ≤ 2147483647) ∧ (0 < 1 ∧ 0 ≤ (4 * (x.tmod 30)) + y ∧ (4 * (x.tmod 30)) + y < ((120 : Nat) : Int)) ∧ (0 < 1 ∧ 0 ≤ (4 * (x.tmod 30)) + y ∧ (4 * (x.tmod 30)) + y < ((120 : Nat) : Int)) from by omega) ?_
          obtain ⟨m58, hm58⟩ : ∃ zq9 : wm, zq9 = wuI m48 71 0 (((4 * (x.tmod 30)) + y).toNat) (wxor (m48.1 71 0 (((4 * (x.tmod 30)) + y).toNat)) (wand z 255)) := ⟨_, rfl⟩
          rw [← hm58]
          have hGm58 : zB c m58 := by rw [hm58]; exact zB_wI rfl (show 0 ≤ wxor (m48.1 71 0 (((4 * (x.tmod 30)) + y).toNat)) (wand z 255) ∧ wxor (m48.1 71 0 (((4 * (x.tmod 30)) + y).toNat)) (wand z 255) ≤ 65535 from by omega) hGm48
          have hFm58 : zfr (fun k i j => (k = 34 ∧ j = 0) ∨ (k = 71)) m0 m58 := by rw [hm58]; exact zfr_wI hFm48 (show (71 = 34 ∧ (((4 * (x.tmod 30)) + y).toNat) = 0) ∨ (71 = 71) from Or.inr (rfl))
          have s59 : m58.1 71 0 (((4 * (x.tmod 30)) + y).toNat) = wxor (m48.1 71 0 (((4 * (x.tmod 30)) + y).toNat)) (wand z 255) := by rw [hm58]; exact wuI_self
          exact ww_rV rfl rfl ⟨rfl, rfl, zB_mono hGm58 (by omega), hFm58, by trivial⟩
      · show wW (zK sc) zM253 31 [(0, .inr (.inr (.inl (some (34, 0))))), (1, .inl x), (2, .inl y), (3, .inl z)] [.inr (.inr (.inl (some (34, 0))))] _ _ _
        refine ww_go 3 (pc' := 37) (L' := [(0, .inr (.inr (.inl (some (34, 0))))), (1, .inl x), (2, .inl y), (3, .inl z)]) (st' := [.inl 2, .inl 1, .inr (.inr (.inl (some (34, 0))))]) (m' := m41) (o := none) rfl trivial ?_
        refine ww_call (vs := [.inr (.inr (.inl (some (34, 0)))), .inl 1, .inl 2]) (r := []) (p := 0 < 1) rfl rfl rfl rfl (show 0 < 1 from by omega) (zs196 (c := c) (by omega) 1 2 hGm41 (by omega)) ?_
        rintro _ _ m62 ⟨r60, rfl, rfl, hGm62, hEm62, hr61⟩
        have hFm62 : zfr (fun k i j => (k = 34 ∧ j = 0) ∨ (k = 71)) m0 m62 := zfr_tr hFm41 hEm62 (fun k i j z => Or.inl z)
        show wW (zK sc) zM253 40 [(0, .inr (.inr (.inl (some (34, 0))))), (1, .inl x), (2, .inl y), (3, .inl z)] [.inl r60] _ _ _
        refine ww_if (t := 64) rfl rfl (by omega) (fun (h63 : r60 ≠ 0) => ?_) (fun (h63 : ¬ (r60 ≠ 0)) => ?_)
        · show wW (zK sc) zM253 64 [(0, .inr (.inr (.inl (some (34, 0))))), (1, .inl x), (2, .inl y), (3, .inl z)] [] _ _ _
          exact ww_rV rfl rfl ⟨rfl, rfl, zB_mono hGm62 (by omega), hFm62, by trivial⟩
        · show wW (zK sc) zM253 43 [(0, .inr (.inr (.inl (some (34, 0))))), (1, .inl x), (2, .inl y), (3, .inl z)] [] _ _ _
          have t64 : (0 ≤ x → x.tmod 30 = x % 30) ∧ (x < 0 → x.tmod 30 = -((-x) % 30)) := ⟨fun z => Int.tmod_eq_emod_of_nonneg z, fun z => wtmod_neg z⟩
          have b65 : 0 ≤ m62.1 71 0 (((4 * (x.tmod 30)) + y).toNat) ∧ m62.1 71 0 (((4 * (x.tmod 30)) + y).toNat) ≤ 65535 := hGm62.1 71 _ rfl _ _
          have t66 := wand_rg z 255
          have t67 := wand_m255 z
          have t68 := wxor_rg (m62.1 71 0 (((4 * (x.tmod 30)) + y).toNat)) (wand z 255)
          have t69 : (0 ≤ m62.1 71 0 (((4 * (x.tmod 30)) + y).toNat) ∧ m62.1 71 0 (((4 * (x.tmod 30)) + y).toNat) ≤ 255 ∧ 0 ≤ wand z 255 ∧ wand z 255 ≤ 255) → (0 ≤ wxor (m62.1 71 0 (((4 * (x.tmod 30)) + y).toNat)) (wand z 255) ∧ wxor (m62.1 71 0 (((4 * (x.tmod 30)) + y).toNat)) (wand z 255) ≤ 255) := fun z => wxor_255 ⟨z.1, z.2.1⟩ z.2.2
          have t70 : (0 ≤ m62.1 71 0 (((4 * (x.tmod 30)) + y).toNat) ∧ m62.1 71 0 (((4 * (x.tmod 30)) + y).toNat) ≤ 65535 ∧ 0 ≤ wand z 255 ∧ wand z 255 ≤ 65535) → (0 ≤ wxor (m62.1 71 0 (((4 * (x.tmod 30)) + y).toNat)) (wand z 255) ∧ wxor (m62.1 71 0 (((4 * (x.tmod 30)) + y).toNat)) (wand z 255) ≤ 65535) := fun z => wxor_65535 ⟨z.1, z.2.1⟩ z.2.2
          have t71 : (0 ≤ m62.1 71 0 (((4 * (x.tmod 30)) + y).toNat) ∧ m62.1 71 0 (((4 * (x.tmod 30)) + y).toNat) ≤ 2147483647 ∧ 0 ≤ wand z 255 ∧ wand z 255 ≤ 2147483647) → (0 ≤ wxor (m62.1 71 0 (((4 * (x.tmod 30)) + y).toNat)) (wand z 255) ∧ wxor (m62.1 71 0 (((4 * (x.tmod 30)) + y).toNat)) (wand z 255) ≤ 2147483647) := fun z => wxor_2147483647 ⟨z.1, z.2.1⟩ z.2.2
          refine ww_go 16 (pc' := 64) (L' := [(0, .inr (.inr (.inl (some (34, 0))))), (1, .inl x), (2, .inl y), (3, .inl z)]) (st' := []) (m' := wuI m62 71 0 (((4 * (x.tmod 30)) + y).toNat) (wxor (m62.1 71 0 (((4 * (x.tmod 30)) + y).toNat)) (wand z 255))) (o := some ((0 < 1) ∧ (-2147483648 ≤ x ∧ x ≤ 2147483647 ∧ 0 < (30 : Int) ∧ (30 : Int) ≤ 2147483647) ∧ (0 < 1 ∧ 0 ≤ (4 * (x.tmod 30)) + y ∧ (4 * (x.tmod 30)) + y < ((120 : Nat) : Int)) ∧ (0 < 1 ∧ 0 ≤ (4 * (x.tmod 30)) + y ∧ (4 * (x.tmod 30)) + y < ((120 : Nat) : Int)))) rfl (show (0 < 1) ∧ (-2147483648 ≤ x ∧ x ≤ 2147483647 ∧ 0 < (30 : Int) ∧ (30 : Int) ≤ 2147483647) ∧ (0 < 1 ∧ 0 ≤ (4 * (x.tmod 30)) + y ∧ (4 * (x.tmod 30)) + y < ((120 : Nat) : Int)) ∧ (0 < 1 ∧ 0 ≤ (4 * (x.tmod 30)) + y ∧ (4 * (x.tmod 30)) + y < ((120 : Nat) : Int)) from by omega) ?_
          obtain ⟨m72, hm72⟩ : ∃ zq9 : wm, zq9 = wuI m62 71 0 (((4 * (x.tmod 30)) + y).toNat) (wxor (m62.1 71 0 (((4 * (x.tmod 30)) + y).toNat)) (wand z 255)) := ⟨_, rfl⟩
          rw [← hm72]
          have hGm72 : zB c m72 := by rw [hm72]; exact zB_wI rfl (show 0 ≤ wxor (m62.1 71 0 (((4 * (x.tmod 30)) + y).toNat)) (wand z 255) ∧ wxor (m62.1 71 0 (((4 * (x.tmod 30)) + y).toNat)) (wand z 255) ≤ 65535 from by omega) hGm62
          have hFm72 : zfr (fun k i j => (k = 34 ∧ j = 0) ∨ (k = 71)) m0 m72 := by rw [hm72]; exact zfr_wI hFm62 (show (71 = 34 ∧ (((4 * (x.tmod 30)) + y).toNat) = 0) ∨ (71 = 71) from Or.inr (rfl))
          have s73 : m72.1 71 0 (((4 * (x.tmod 30)) + y).toNat) = wxor (m62.1 71 0 (((4 * (x.tmod 30)) + y).toNat)) (wand z 255) := by rw [hm72]; exact wuI_self
          exact ww_rV rfl rfl ⟨rfl, rfl, zB_mono hGm72 (by omega), hFm72, by trivial⟩
set_option maxRecDepth 8000 in
theorem zs213_l34 {sc : xSc} {n : Nat × Nat} {m0 : wm} {c : Int} (hc : 0 ≤ c ∧ c ≤ 1000000)  (hG : zB c m0) : ∀ (d : Nat), ∀ (y : Int) (v : Int64) (k : Int) (m : wm), (1000000 - k).toNat = d → zB c m → zfr (fun k i j => (k = 34 ∧ j = 0)) m0 m → (0 ≤ y ∧ y ≤ 1 ∧ 0 ≤ k ∧ k ≤ 1000000) →  wW (zK sc) zM213 34 [(0, .inr (.inr (.inl (some (34, 0))))), (1, .inl y), (2, .inr (.inl v)), (4, .inl k)] [] n m (wr (fun vv n1 m1 => ∃ r : Int, vv = some (.inl r) ∧ n = n1 ∧ zB c m1 ∧ zfr (fun k i j => (k = 34 ∧ j = 0)) m0 m1 ∧ (0 ≤ r ∧ r ≤ 1))) := by
  intro d
  induction d using Nat.strongRecOn with
  | ind d ih =>
    intro y v k m hd hGm hFm hi
    have b1 : 0 ≤ m.1 34 0 47 ∧ m.1 34 0 47 ≤ c := hGm.1 34 _ rfl _ _
    refine ww_go 3 (pc' := 40) (L' := [(0, .inr (.inr (.inl (some (34, 0))))), (1, .inl y), (2, .inr (.inl v)), (4, .inl k)]) (st' := [.inl (m.1 34 0 47), .inl k]) (m' := m) (o := some ((0 < 1))) rfl (show (0 < 1) from by omega) ?_
    refine ww_ic (t := 91) rfl rfl (by omega) (fun (h2 : m.1 34 0 47 ≤ k) => ?_) (fun (h2 : ¬ (m.1 34 0 47 ≤ k)) => ?_)
    · show wW (zK sc) zM213 91 [(0, .inr (.inr (.inl (some (34, 0))))), (1, .inl y), (2, .inr (.inl v)), (4, .inl k)] [] _ _ _
      refine ww_go 1 (pc' := 92) (L' := [(0, .inr (.inr (.inl (some (34, 0))))), (1, .inl y), (2, .inr (.inl v)), (4, .inl k)]) (st' := [.inl y]) (m' := m) (o := none) rfl trivial ?_
      exact ww_rB rfl rfl (by omega) ⟨_, rfl, rfl, zB_mono hGm (by omega), hFm, by omega⟩
    · show wW (zK sc) zM213 43 [(0, .inr (.inr (.inl (some (34, 0))))), (1, .inl y), (2, .inr (.inl v)), (4, .inl k)] [] _ _ _
      refine ww_go 1 (pc' := 44) (L' := [(0, .inr (.inr (.inl (some (34, 0))))), (1, .inl y), (2, .inr (.inl v)), (4, .inl k)]) (st' := [.inl y]) (m' := m) (o := none) rfl trivial ?_
      refine ww_if (t := 72) rfl rfl (by omega) (fun (h3 : y = 0) => ?_) (fun (h3 : ¬ (y = 0)) => ?_)
      · show wW (zK sc) zM213 72 [(0, .inr (.inr (.inl (some (34, 0))))), (1, .inl y), (2, .inr (.inl v)), (4, .inl k)] [] _ _ _
        have t4 : (0 ≤ k → k.tmod 30 = k % 30) ∧ (k < 0 → k.tmod 30 = -((-k) % 30)) := ⟨fun z => Int.tmod_eq_emod_of_nonneg z, fun z => wtmod_neg z⟩
        refine ww_go 11 (pc' := 34) (L' := [(4, .inl (k + 1)), (2, .inr (.inl (m.2.1 72 0 ((k.tmod 30).toNat)))), (1, .inl 0), (0, .inr (.inr (.inl (some (34, 0)))))]) (st' := []) (m' := m) (o := some ((0 < 1) ∧ (-2147483648 ≤ k ∧ k ≤ 2147483647 ∧ 0 < (30 : Int) ∧ (30 : Int) ≤ 2147483647) ∧ (0 < 1 ∧ 0 ≤ k.tmod 30 ∧ k.tmod 30 < ((30 : Nat) : Int)))) rfl (show (0 < 1) ∧ (-2147483648 ≤ k ∧ k ≤ 2147483647 ∧ 0 < (30 : Int) ∧ (30 : Int) ≤ 2147483647) ∧ (0 < 1 ∧ 0 ≤ k.tmod 30 ∧ k.tmod 30 < ((30 : Nat) : Int)) from by omega) ?_
        refine ww_sub (L := [(0, .inr (.inr (.inl (some (34, 0))))), (1, .inl 0), (2, .inr (.inl (m.2.1 72 0 ((k.tmod 30).toNat)))), (4, .inl (k + 1))]) ⟨rfl, rfl, rfl, rfl, trivial⟩ rfl rfl ?_
        exact (ih _ (by omega)) 0 (m.2.1 72 0 ((k.tmod 30).toNat)) (k + 1) m rfl (zB_mono hGm (by omega)) hFm (by omega)
      · show wW (zK sc) zM213 47 [(0, .inr (.inr (.inl (some (34, 0))))), (1, .inl y), (2, .inr (.inl v)), (4, .inl k)] [] _ _ _
        refine ww_go 3 (pc' := 51) (L' := [(0, .inr (.inr (.inl (some (34, 0))))), (1, .inl y), (2, .inr (.inl v)), (4, .inl k)]) (st' := [.inl k, .inr (.inl v), .inr (.inr (.inl (some (34, 0))))]) (m' := m) (o := none) rfl trivial ?_
        refine ww_call (vs := [.inr (.inr (.inl (some (34, 0)))), .inr (.inl v), .inl k]) (r := []) (p := 0 < 1) rfl rfl rfl rfl (show 0 < 1 from by omega) (zs219 (c := c) (by omega) v k hGm (by omega)) ?_
        rintro _ _ _ ⟨r5, rfl, rfl, rfl, hr6⟩
        show wW (zK sc) zM213 54 [(0, .inr (.inr (.inl (some (34, 0))))), (1, .inl y), (2, .inr (.inl v)), (4, .inl k)] [.inr (.inl r5)] _ _ _
        have t7 : (0 ≤ k → k.tmod 30 = k % 30) ∧ (k < 0 → k.tmod 30 = -((-k) % 30)) := ⟨fun z => Int.tmod_eq_emod_of_nonneg z, fun z => wtmod_neg z⟩
        have t8 := wlcmp_rg r5 (m.2.1 72 0 ((k.tmod 30).toNat))
        refine ww_go 7 (pc' := 65) (L' := [(0, .inr (.inr (.inl (some (34, 0))))), (1, .inl y), (2, .inr (.inl v)), (4, .inl k)]) (st' := [.inl (wlcmp r5 (m.2.1 72 0 ((k.tmod 30).toNat)))]) (m' := m) (o := some ((0 < 1) ∧ (-2147483648 ≤ k ∧ k ≤ 2147483647 ∧ 0 < (30 : Int) ∧ (30 : Int) ≤ 2147483647) ∧ (0 < 1 ∧ 0 ≤ k.tmod 30 ∧ k.tmod 30 < ((30 : Nat) : Int)))) rfl (show (0 < 1) ∧ (-2147483648 ≤ k ∧ k ≤ 2147483647 ∧ 0 < (30 : Int) ∧ (30 : Int) ≤ 2147483647) ∧ (0 < 1 ∧ 0 ≤ k.tmod 30 ∧ k.tmod 30 < ((30 : Nat) : Int)) from by omega) ?_
        refine ww_if (t := 72) rfl rfl (by omega) (fun (h9 : wlcmp r5 (m.2.1 72 0 ((k.tmod 30).toNat)) ≠ 0) => ?_) (fun (h9 : ¬ (wlcmp r5 (m.2.1 72 0 ((k.tmod 30).toNat)) ≠ 0)) => ?_)
        · show wW (zK sc) zM213 72 [(0, .inr (.inr (.inl (some (34, 0))))), (1, .inl y), (2, .inr (.inl v)), (4, .inl k)] [] _ _ _
          have t10 : (0 ≤ k → k.tmod 30 = k % 30) ∧ (k < 0 → k.tmod 30 = -((-k) % 30)) := ⟨fun z => Int.tmod_eq_emod_of_nonneg z, fun z => wtmod_neg z⟩
          refine ww_go 11 (pc' := 34) (L' := [(4, .inl (k + 1)), (2, .inr (.inl (m.2.1 72 0 ((k.tmod 30).toNat)))), (1, .inl 0), (0, .inr (.inr (.inl (some (34, 0)))))]) (st' := []) (m' := m) (o := some ((0 < 1) ∧ (-2147483648 ≤ k ∧ k ≤ 2147483647 ∧ 0 < (30 : Int) ∧ (30 : Int) ≤ 2147483647) ∧ (0 < 1 ∧ 0 ≤ k.tmod 30 ∧ k.tmod 30 < ((30 : Nat) : Int)))) rfl (show (0 < 1) ∧ (-2147483648 ≤ k ∧ k ≤ 2147483647 ∧ 0 < (30 : Int) ∧ (30 : Int) ≤ 2147483647) ∧ (0 < 1 ∧ 0 ≤ k.tmod 30 ∧ k.tmod 30 < ((30 : Nat) : Int)) from by omega) ?_
          refine ww_sub (L := [(0, .inr (.inr (.inl (some (34, 0))))), (1, .inl 0), (2, .inr (.inl (m.2.1 72 0 ((k.tmod 30).toNat)))), (4, .inl (k + 1))]) ⟨rfl, rfl, rfl, rfl, trivial⟩ rfl rfl ?_
          exact (ih _ (by omega)) 0 (m.2.1 72 0 ((k.tmod 30).toNat)) (k + 1) m rfl (zB_mono hGm (by omega)) hFm (by omega)
        · show wW (zK sc) zM213 68 [(0, .inr (.inr (.inl (some (34, 0))))), (1, .inl y), (2, .inr (.inl v)), (4, .inl k)] [] _ _ _
          have t11 : (0 ≤ k → k.tmod 30 = k % 30) ∧ (k < 0 → k.tmod 30 = -((-k) % 30)) := ⟨fun z => Int.tmod_eq_emod_of_nonneg z, fun z => wtmod_neg z⟩
          refine ww_go 12 (pc' := 34) (L' := [(4, .inl (k + 1)), (2, .inr (.inl (m.2.1 72 0 ((k.tmod 30).toNat)))), (1, .inl 1), (0, .inr (.inr (.inl (some (34, 0)))))]) (st' := []) (m' := m) (o := some ((0 < 1) ∧ (-2147483648 ≤ k ∧ k ≤ 2147483647 ∧ 0 < (30 : Int) ∧ (30 : Int) ≤ 2147483647) ∧ (0 < 1 ∧ 0 ≤ k.tmod 30 ∧ k.tmod 30 < ((30 : Nat) : Int)))) rfl (show (0 < 1) ∧ (-2147483648 ≤ k ∧ k ≤ 2147483647 ∧ 0 < (30 : Int) ∧ (30 : Int) ≤ 2147483647) ∧ (0 < 1 ∧ 0 ≤ k.tmod 30 ∧ k.tmod 30 < ((30 : Nat) : Int)) from by omega) ?_
          refine ww_sub (L := [(0, .inr (.inr (.inl (some (34, 0))))), (1, .inl 1), (2, .inr (.inl (m.2.1 72 0 ((k.tmod 30).toNat)))), (4, .inl (k + 1))]) ⟨rfl, rfl, rfl, rfl, trivial⟩ rfl rfl ?_
          exact (ih _ (by omega)) 1 (m.2.1 72 0 ((k.tmod 30).toNat)) (k + 1) m rfl (zB_mono hGm (by omega)) hFm (by omega)
set_option maxRecDepth 8000 in
/-- Mo.isSound -/
theorem zs213 {sc : xSc} {n : Nat × Nat} {m0 : wm} {c : Int} (hc : 0 ≤ c ∧ c ≤ 1000000)  (hG : zB c m0) : wX (zK sc) 213 [.inr (.inr (.inl (some (34, 0))))] n m0 (wr (fun vv n1 m1 => ∃ r : Int, vv = some (.inl r) ∧ n = n1 ∧ zB c m1 ∧ zfr (fun k i j => (k = 34 ∧ j = 0)) m0 m1 ∧ (0 ≤ r ∧ r ≤ 1))) := by
  refine wX_of (N := zM213) rfl (Nat.le_of_ble_eq_true rfl) ?_
  show wW (zK sc) zM213 0 [(0, .inr (.inr (.inl (some (34, 0)))))] [] n m0 _
  have hF : zfr (fun k i j => (k = 34 ∧ j = 0)) m0 m0 := zfr_rf
  refine ww_go 3 (pc' := 5) (L' := [(0, .inr (.inr (.inl (some (34, 0)))))]) (st' := []) (m' := wuI m0 34 0 0 0) (o := some ((0 < 1))) rfl (show (0 < 1) from by omega) ?_
  obtain ⟨m1, hm1⟩ : ∃ zq9 : wm, zq9 = wuI m0 34 0 0 0 := ⟨_, rfl⟩
  rw [← hm1]
  have hGm1 : zB c m1 := by rw [hm1]; exact zB_wI rfl (show 0 ≤ (0 : Int) ∧ (0 : Int) ≤ 2 from by omega) hG
  have hFm1 : zfr (fun k i j => (k = 34 ∧ j = 0)) m0 m1 := by rw [hm1]; exact zfr_wI hF (show (34 = 34 ∧ 0 = 0) from ⟨rfl, rfl⟩)
  have s2 : m1.1 34 0 0 = (0 : Int) := by rw [hm1]; exact wuI_self
  have b3 : 0 ≤ m1.1 34 0 47 ∧ m1.1 34 0 47 ≤ c := hGm1.1 34 _ rfl _ _
  refine ww_go 8 (pc' := 18) (L' := [(2, .inr (.inl (m1.2.1 34 0 48))), (1, .inl 1), (0, .inr (.inr (.inl (some (34, 0)))))]) (st' := [.inl 30, .inl (m1.1 34 0 47)]) (m' := m1) (o := some ((0 < 1) ∧ (0 < 1))) rfl (show (0 < 1) ∧ (0 < 1) from by omega) ?_
  refine ww_ic (t := 31) rfl rfl (by omega) (fun (h4 : m1.1 34 0 47 ≤ 30) => ?_) (fun (h4 : ¬ (m1.1 34 0 47 ≤ 30)) => ?_)
  · show wW (zK sc) zM213 31 [(2, .inr (.inl (m1.2.1 34 0 48))), (1, .inl 1), (0, .inr (.inr (.inl (some (34, 0)))))] [] _ _ _
    refine ww_go 2 (pc' := 34) (L' := [(4, .inl 0), (2, .inr (.inl (m1.2.1 34 0 48))), (1, .inl 1), (0, .inr (.inr (.inl (some (34, 0)))))]) (st' := []) (m' := m1) (o := none) rfl trivial ?_
    refine ww_sub (L := [(0, .inr (.inr (.inl (some (34, 0))))), (1, .inl 1), (2, .inr (.inl (m1.2.1 34 0 48))), (4, .inl 0)]) ⟨rfl, rfl, rfl, rfl, trivial⟩ rfl rfl ?_
    exact (zs213_l34 hc hG _) 1 (m1.2.1 34 0 48) 0 m1 rfl (zB_mono hGm1 (by omega)) hFm1 (by omega)
  · show wW (zK sc) zM213 21 [(2, .inr (.inl (m1.2.1 34 0 48))), (1, .inl 1), (0, .inr (.inr (.inl (some (34, 0)))))] [] _ _ _
    have b5 : 0 ≤ m1.1 34 0 47 ∧ m1.1 34 0 47 ≤ c := hGm1.1 34 _ rfl _ _
    refine ww_go 6 (pc' := 34) (L' := [(4, .inl ((m1.1 34 0 47) - 30)), (2, .inr (.inl (m1.2.1 34 0 48))), (1, .inl 1), (0, .inr (.inr (.inl (some (34, 0)))))]) (st' := []) (m' := m1) (o := some ((0 < 1))) rfl (show (0 < 1) from by omega) ?_
    refine ww_sub (L := [(0, .inr (.inr (.inl (some (34, 0))))), (1, .inl 1), (2, .inr (.inl (m1.2.1 34 0 48))), (4, .inl ((m1.1 34 0 47) - 30))]) ⟨rfl, rfl, rfl, rfl, trivial⟩ rfl rfl ?_
    exact (zs213_l34 hc hG _) 1 (m1.2.1 34 0 48) ((m1.1 34 0 47) - 30) m1 rfl (zB_mono hGm1 (by omega)) hFm1 (by omega)
set_option maxRecDepth 8000 in
/-- Mo.count -/
theorem zs191 {sc : xSc} {n : Nat × Nat} {m0 : wm} {c : Int} (hc : 0 ≤ c ∧ c ≤ 1000000) (x : Int) (hG : zB c m0) (h0 : -2147483648 ≤ x ∧ x ≤ 2147483647) : wX (zK sc) 191 [.inr (.inr (.inl (some (34, 0)))), .inl x] n m0 (wr (fun vv n1 m1 => ∃ r : Int, vv = some (.inl r) ∧ n = n1 ∧ zB c m1 ∧ zfr (fun k i j => (k = 34 ∧ j = 0)) m0 m1 ∧ True)) := by
  refine wX_of (N := zM191) rfl (Nat.le_of_ble_eq_true rfl) ?_
  show wW (zK sc) zM191 0 [(0, .inr (.inr (.inl (some (34, 0))))), (1, .inl x)] [] n m0 _
  have hF : zfr (fun k i j => (k = 34 ∧ j = 0)) m0 m0 := zfr_rf
  refine ww_go 4 (pc' := 4) (L' := [(0, .inr (.inr (.inl (some (34, 0))))), (1, .inl x)]) (st' := [.inl 2, .inl 0, .inl x, .inr (.inr (.inl (some (34, 0))))]) (m' := m0) (o := none) rfl trivial ?_
  refine ww_call (vs := [.inl x, .inl 0, .inl 2]) (r := [.inr (.inr (.inl (some (34, 0))))]) (p := True) rfl rfl rfl rfl trivial (zs207 x 0 2 (by omega)) ?_
  rintro _ _ _ ⟨r1, rfl, rfl, rfl, hr2⟩
  show wW (zK sc) zM191 7 [(0, .inr (.inr (.inl (some (34, 0))))), (1, .inl x)] [.inl r1, .inr (.inr (.inl (some (34, 0))))] _ _ _
  refine ww_if (t := 14) rfl rfl (by omega) (fun (h3 : r1 ≠ 0) => ?_) (fun (h3 : ¬ (r1 ≠ 0)) => ?_)
  · show wW (zK sc) zM191 14 [(0, .inr (.inr (.inl (some (34, 0))))), (1, .inl x)] [.inr (.inr (.inl (some (34, 0))))] _ _ _
    refine ww_go 2 (pc' := 16) (L' := [(0, .inr (.inr (.inl (some (34, 0))))), (1, .inl x)]) (st' := [.inl 1, .inl 0, .inr (.inr (.inl (some (34, 0))))]) (m' := m0) (o := none) rfl trivial ?_
    refine ww_call (vs := [.inr (.inr (.inl (some (34, 0)))), .inl 0, .inl 1]) (r := []) (p := 0 < 1) rfl rfl rfl rfl (show 0 < 1 from by omega) (zs196 (c := c) (by omega) 0 1 hG (by omega)) ?_
    rintro _ _ m6 ⟨r4, rfl, rfl, hGm6, hEm6, hr5⟩
    have hFm6 : zfr (fun k i j => (k = 34 ∧ j = 0)) m0 m6 := zfr_tr hF hEm6 (fun k i j z => z)
    show wW (zK sc) zM191 19 [(0, .inr (.inr (.inl (some (34, 0))))), (1, .inl x)] [.inl r4] _ _ _
    refine ww_if (t := 24) rfl rfl (by omega) (fun (h7 : r4 = 0) => ?_) (fun (h7 : ¬ (r4 = 0)) => ?_)
    · show wW (zK sc) zM191 24 [(0, .inr (.inr (.inl (some (34, 0))))), (1, .inl x)] [] _ _ _
      refine ww_go 1 (pc' := 25) (L' := [(0, .inr (.inr (.inl (some (34, 0))))), (1, .inl x)]) (st' := [.inl x]) (m' := m6) (o := none) rfl trivial ?_
      refine ww_if (t := 35) rfl rfl (by omega) (fun (h8 : x ≠ 0) => ?_) (fun (h8 : ¬ (x ≠ 0)) => ?_)
      · show wW (zK sc) zM191 35 [(0, .inr (.inr (.inl (some (34, 0))))), (1, .inl x)] [] _ _ _
        refine ww_go 2 (pc' := 37) (L' := [(0, .inr (.inr (.inl (some (34, 0))))), (1, .inl x)]) (st' := [.inl 1, .inl x]) (m' := m6) (o := none) rfl trivial ?_
        refine ww_ic (t := 47) rfl rfl (by omega) (fun (h9 : x ≠ 1) => ?_) (fun (h9 : ¬ (x ≠ 1)) => ?_)
        · show wW (zK sc) zM191 47 [(0, .inr (.inr (.inl (some (34, 0))))), (1, .inl x)] [] _ _ _
          have b10 : 0 ≤ m6.1 34 0 16 ∧ m6.1 34 0 16 ≤ c := hGm6.1 34 _ rfl _ _
          refine ww_go 2 (pc' := 51) (L' := [(0, .inr (.inr (.inl (some (34, 0))))), (1, .inl x)]) (st' := [.inl (m6.1 34 0 16)]) (m' := m6) (o := some ((0 < 1))) rfl (show (0 < 1) from by omega) ?_
          exact ww_rI rfl rfl ⟨_, rfl, rfl, zB_mono hGm6 (by omega), hFm6, by trivial⟩
        · show wW (zK sc) zM191 40 [(0, .inr (.inr (.inl (some (34, 0))))), (1, .inl x)] [] _ _ _
          have b11 : 0 ≤ m6.1 34 0 30 ∧ m6.1 34 0 30 ≤ 24 := hGm6.1 34 _ rfl _ _
          refine ww_go 3 (pc' := 51) (L' := [(0, .inr (.inr (.inl (some (34, 0))))), (1, .inl x)]) (st' := [.inl (m6.1 34 0 30)]) (m' := m6) (o := some ((0 < 1))) rfl (show (0 < 1) from by omega) ?_
          exact ww_rI rfl rfl ⟨_, rfl, rfl, zB_mono hGm6 (by omega), hFm6, by trivial⟩
      · show wW (zK sc) zM191 28 [(0, .inr (.inr (.inl (some (34, 0))))), (1, .inl x)] [] _ _ _
        have b12 : 0 ≤ m6.1 34 0 35 ∧ m6.1 34 0 35 ≤ c := hGm6.1 34 _ rfl _ _
        refine ww_go 3 (pc' := 51) (L' := [(0, .inr (.inr (.inl (some (34, 0))))), (1, .inl x)]) (st' := [.inl (m6.1 34 0 35)]) (m' := m6) (o := some ((0 < 1))) rfl (show (0 < 1) from by omega) ?_
        exact ww_rI rfl rfl ⟨_, rfl, rfl, zB_mono hGm6 (by omega), hFm6, by trivial⟩
    · show wW (zK sc) zM191 22 [(0, .inr (.inr (.inl (some (34, 0))))), (1, .inl x)] [] _ _ _
      refine ww_go 1 (pc' := 23) (L' := [(0, .inr (.inr (.inl (some (34, 0))))), (1, .inl x)]) (st' := [.inl 0]) (m' := m6) (o := none) rfl trivial ?_
      exact ww_rI rfl rfl ⟨_, rfl, rfl, zB_mono hGm6 (by omega), hFm6, by trivial⟩
  · show wW (zK sc) zM191 10 [(0, .inr (.inr (.inl (some (34, 0))))), (1, .inl x)] [.inr (.inr (.inl (some (34, 0))))] _ _ _
    refine ww_go 3 (pc' := 16) (L' := [(0, .inr (.inr (.inl (some (34, 0))))), (1, .inl x)]) (st' := [.inl 1, .inl 1, .inr (.inr (.inl (some (34, 0))))]) (m' := m0) (o := none) rfl trivial ?_
    refine ww_call (vs := [.inr (.inr (.inl (some (34, 0)))), .inl 1, .inl 1]) (r := []) (p := 0 < 1) rfl rfl rfl rfl (show 0 < 1 from by omega) (zs196 (c := c) (by omega) 1 1 hG (by omega)) ?_
    rintro _ _ m15 ⟨r13, rfl, rfl, hGm15, hEm15, hr14⟩
    have hFm15 : zfr (fun k i j => (k = 34 ∧ j = 0)) m0 m15 := zfr_tr hF hEm15 (fun k i j z => z)
    show wW (zK sc) zM191 19 [(0, .inr (.inr (.inl (some (34, 0))))), (1, .inl x)] [.inl r13] _ _ _
    refine ww_if (t := 24) rfl rfl (by omega) (fun (h16 : r13 = 0) => ?_) (fun (h16 : ¬ (r13 = 0)) => ?_)
    · show wW (zK sc) zM191 24 [(0, .inr (.inr (.inl (some (34, 0))))), (1, .inl x)] [] _ _ _
      refine ww_go 1 (pc' := 25) (L' := [(0, .inr (.inr (.inl (some (34, 0))))), (1, .inl x)]) (st' := [.inl x]) (m' := m15) (o := none) rfl trivial ?_
      refine ww_if (t := 35) rfl rfl (by omega) (fun (h17 : x ≠ 0) => ?_) (fun (h17 : ¬ (x ≠ 0)) => ?_)
      · show wW (zK sc) zM191 35 [(0, .inr (.inr (.inl (some (34, 0))))), (1, .inl x)] [] _ _ _
        refine ww_go 2 (pc' := 37) (L' := [(0, .inr (.inr (.inl (some (34, 0))))), (1, .inl x)]) (st' := [.inl 1, .inl x]) (m' := m15) (o := none) rfl trivial ?_
        refine ww_ic (t := 47) rfl rfl (by omega) (fun (h18 : x ≠ 1) => ?_) (fun (h18 : ¬ (x ≠ 1)) => ?_)
        · show wW (zK sc) zM191 47 [(0, .inr (.inr (.inl (some (34, 0))))), (1, .inl x)] [] _ _ _
          have b19 : 0 ≤ m15.1 34 0 16 ∧ m15.1 34 0 16 ≤ c := hGm15.1 34 _ rfl _ _
          refine ww_go 2 (pc' := 51) (L' := [(0, .inr (.inr (.inl (some (34, 0))))), (1, .inl x)]) (st' := [.inl (m15.1 34 0 16)]) (m' := m15) (o := some ((0 < 1))) rfl (show (0 < 1) from by omega) ?_
          exact ww_rI rfl rfl ⟨_, rfl, rfl, zB_mono hGm15 (by omega), hFm15, by trivial⟩
        · show wW (zK sc) zM191 40 [(0, .inr (.inr (.inl (some (34, 0))))), (1, .inl x)] [] _ _ _
          have b20 : 0 ≤ m15.1 34 0 30 ∧ m15.1 34 0 30 ≤ 24 := hGm15.1 34 _ rfl _ _
          refine ww_go 3 (pc' := 51) (L' := [(0, .inr (.inr (.inl (some (34, 0))))), (1, .inl x)]) (st' := [.inl (m15.1 34 0 30)]) (m' := m15) (o := some ((0 < 1))) rfl (show (0 < 1) from by omega) ?_
          exact ww_rI rfl rfl ⟨_, rfl, rfl, zB_mono hGm15 (by omega), hFm15, by trivial⟩
      · show wW (zK sc) zM191 28 [(0, .inr (.inr (.inl (some (34, 0))))), (1, .inl x)] [] _ _ _
        have b21 : 0 ≤ m15.1 34 0 35 ∧ m15.1 34 0 35 ≤ c := hGm15.1 34 _ rfl _ _
        refine ww_go 3 (pc' := 51) (L' := [(0, .inr (.inr (.inl (some (34, 0))))), (1, .inl x)]) (st' := [.inl (m15.1 34 0 35)]) (m' := m15) (o := some ((0 < 1))) rfl (show (0 < 1) from by omega) ?_
        exact ww_rI rfl rfl ⟨_, rfl, rfl, zB_mono hGm15 (by omega), hFm15, by trivial⟩
    · show wW (zK sc) zM191 22 [(0, .inr (.inr (.inl (some (34, 0))))), (1, .inl x)] [] _ _ _
      refine ww_go 1 (pc' := 23) (L' := [(0, .inr (.inr (.inl (some (34, 0))))), (1, .inl x)]) (st' := [.inl 0]) (m' := m15) (o := none) rfl trivial ?_
      exact ww_rI rfl rfl ⟨_, rfl, rfl, zB_mono hGm15 (by omega), hFm15, by trivial⟩
