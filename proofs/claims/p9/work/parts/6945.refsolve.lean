set_option maxRecDepth 8000 in
theorem yt246_l3 {sc : xSc} {n : Nat × Nat} {m0 : wm} {c : Int} (hc : 0 ≤ c ∧ c ≤ 1000000) (b : Int) (y : Int) (f : Int) (i : Int) (hG : zB c m0) (hR : zRI m0) (h0 : 0 ≤ f ∧ f ≤ 7 ∧ 0 ≤ i ∧ i ≤ 6 ∧ 0 ≤ b ∧ b ≤ 1 ∧ 1 ≤ y ∧ y ≤ 8) (hg : 1 ≤ i ∨ m0.1 51 0 f.toNat ≠ 1) (hb : zRb m0) : ∀ (d : Nat), (∀ (t : Int) (m : wm), (8 - t).toNat * 100 + 99 = d → zB c m → zfr (fun k i j => (k = 58) ∨ (k = 59) ∨ (k = 60) ∨ (k = 61) ∨ (k = 34 ∧ j = 30) ∨ (k = 56) ∨ (k = 55)) m0 m → zRI m → (0 ≤ t ∧ t ≤ 8 ∧ t ≤ y ∧ m.1 51 0 f.toNat = m0.1 51 0 f.toNat) → (zfr ze56 m0 m) → (∃ v, zSp m0 m (7 * f + i) b t 0 v) →  wW (zK sc) zM246 3 [(0, .inr (.inr (.inl (some (34, 0))))), (1, .inl (7 * f + i)), (2, .inl b), (3, .inl y), (4, .inl t)] [] n m (wr (fun vv n1 m1 => vv = none ∧ n = n1 ∧ zB c m1 ∧ zfr (fun k i j => (k = 58) ∨ (k = 59) ∨ (k = 60) ∨ (k = 61) ∨ (k = 34 ∧ j = 30) ∨ (k = 56) ∨ (k = 55)) m0 m1 ∧ (zRI m1 ∧ (m1.1 55 0 ((2 * (7 * f + i) + b).toNat) = 1 ∧ zSv m0 m1 (7 * f + i) b y))))) ∧ (∀ (t : Int) (v : Int64) (k : Int) (m : wm), (8 - t).toNat * 100 + (8 - k).toNat = d → zB c m → zfr (fun k i j => (k = 58) ∨ (k = 59) ∨ (k = 60) ∨ (k = 61) ∨ (k = 34 ∧ j = 30) ∨ (k = 56) ∨ (k = 55)) m0 m → zRI m → (0 ≤ t ∧ t ≤ 8 ∧ t ≤ y ∧ m.1 51 0 f.toNat = m0.1 51 0 f.toNat ∧ t ≤ 7 ∧ t < y ∧ 0 ≤ k ∧ k ≤ 8) → (zfr ze56 m0 m) → (zSp m0 m (7 * f + i) b t k v) → (zok m0 (7 * f + i) b t.toNat v) →  wW (zK sc) zM246 30 [(0, .inr (.inr (.inl (some (34, 0))))), (1, .inl (7 * f + i)), (2, .inl b), (3, .inl y), (4, .inl t), (5, .inr (.inl v)), (7, .inl k)] [] n m (wr (fun vv n1 m1 => vv = none ∧ n = n1 ∧ zB c m1 ∧ zfr (fun k i j => (k = 58) ∨ (k = 59) ∨ (k = 60) ∨ (k = 61) ∨ (k = 34 ∧ j = 30) ∨ (k = 56) ∨ (k = 55)) m0 m1 ∧ (zRI m1 ∧ (m1.1 55 0 ((2 * (7 * f + i) + b).toNat) = 1 ∧ zSv m0 m1 (7 * f + i) b y))))) := by
  intro d
  induction d using Nat.strongRecOn with
  | ind d ih =>
    refine ⟨?_, ?_⟩
    · intro t m hd hGm hFm hRm hi h56 hs
      refine ww_go 2 (pc' := 6) (L' := [(0, .inr (.inr (.inl (some (34, 0))))), (1, .inl (7 * f + i)), (2, .inl b), (3, .inl y), (4, .inl t)]) (st' := [.inl y, .inl t]) (m' := m) (o := none) rfl trivial ?_
      refine ww_ic (t := 99) rfl rfl (by omega) (fun (h1 : y ≤ t) => ?_) (fun (h1 : ¬ (y ≤ t)) => ?_)
      · show wW (zK sc) zM246 99 [(0, .inr (.inr (.inl (some (34, 0))))), (1, .inl (7 * f + i)), (2, .inl b), (3, .inl y), (4, .inl t)] [] _ _ _
        refine ww_go 4 (pc' := 103) (L' := [(0, .inr (.inr (.inl (some (34, 0))))), (1, .inl (7 * f + i)), (2, .inl b), (3, .inl y), (4, .inl t)]) (st' := [.inl b, .inl (7 * f + i), .inl (7 * f + i), .inr (.inr (.inl (some (34, 0))))]) (m' := m) (o := none) rfl trivial ?_
        refine ww_call (vs := [.inr (.inr (.inl (some (34, 0)))), .inl (7 * f + i), .inl (7 * f + i), .inl b]) (r := []) (p := 0 < 1) rfl rfl rfl rfl (show 0 < 1 from by omega) (yt192 (c := c) (by omega) (7 * f + i) (7 * f + i) b hGm (by omega)) ?_
        rintro _ _ m4 ⟨rfl, rfl, hGm4, hEm4, hr3⟩
        have hFm4 : zfr (fun k i j => (k = 58) ∨ (k = 59) ∨ (k = 60) ∨ (k = 61) ∨ (k = 34 ∧ j = 30) ∨ (k = 56) ∨ (k = 55)) m0 m4 := zfr_tr hFm hEm4 (fun k i j z => Or.elim z (fun z => Or.inl z) (fun z => Or.elim z (fun z => Or.inr (Or.inl z)) (fun z => Or.elim z (fun z => Or.inr (Or.inr (Or.inl z))) (fun z => Or.elim z (fun z => Or.inr (Or.inr (Or.inr (Or.inl z)))) (fun z => Or.inr (Or.inr (Or.inr (Or.inr (Or.inl z)))))))))
        have w5 : m4.1 51 0 f.toNat = m.1 51 0 f.toNat := (hEm4 51 0 f.toNat (show ¬ ((51 = 58) ∨ (51 = 59) ∨ (51 = 60) ∨ (51 = 61) ∨ (51 = 34 ∧ f.toNat = 30)) from by omega)).1
        have hRm4 : zRI m4 := zRI_fr hRm hEm4 (fun k j hk => (show ¬ ((k = 58) ∨ (k = 59) ∨ (k = 60) ∨ (k = 61) ∨ (k = 34 ∧ j = 30)) from by omega))
        show wW (zK sc) zM246 106 [(0, .inr (.inr (.inl (some (34, 0))))), (1, .inl (7 * f + i)), (2, .inl b), (3, .inl y), (4, .inl t)] [] _ _ _
        refine ww_go 9 (pc' := 117) (L' := [(0, .inr (.inr (.inl (some (34, 0))))), (1, .inl (7 * f + i)), (2, .inl b), (3, .inl y), (4, .inl t)]) (st' := []) (m' := wuI m4 55 0 (((2 * (7 * f + i)) + b).toNat) 1) (o := some ((0 < 1) ∧ (0 < 1 ∧ 0 ≤ (2 * (7 * f + i)) + b ∧ (2 * (7 * f + i)) + b < ((112 : Nat) : Int) ∧ 0 ≤ (1 : Int) ∧ (1 : Int) ≤ 1))) rfl (show (0 < 1) ∧ (0 < 1 ∧ 0 ≤ (2 * (7 * f + i)) + b ∧ (2 * (7 * f + i)) + b < ((112 : Nat) : Int) ∧ 0 ≤ (1 : Int) ∧ (1 : Int) ≤ 1) from by omega) ?_
        obtain ⟨m6, hm6⟩ : ∃ zq9 : wm, zq9 = wuI m4 55 0 (((2 * (7 * f + i)) + b).toNat) 1 := ⟨_, rfl⟩
        rw [← hm6]
        have hGm6 : zB c m6 := by rw [hm6]; exact zB_wI rfl (show 0 ≤ (1 : Int) ∧ (1 : Int) ≤ 1 from by omega) hGm4
        have hFm6 : zfr (fun k i j => (k = 58) ∨ (k = 59) ∨ (k = 60) ∨ (k = 61) ∨ (k = 34 ∧ j = 30) ∨ (k = 56) ∨ (k = 55)) m0 m6 := by rw [hm6]; exact zfr_wI hFm4 (show (55 = 58) ∨ (55 = 59) ∨ (55 = 60) ∨ (55 = 61) ∨ (55 = 34 ∧ (((2 * (7 * f + i)) + b).toNat) = 30) ∨ (55 = 56) ∨ (55 = 55) from Or.inr (Or.inr (Or.inr (Or.inr (Or.inr (Or.inr (rfl)))))))
        have s7 : m6.1 55 0 (((2 * (7 * f + i)) + b).toNat) = (1 : Int) := by rw [hm6]; exact wuI_self
        have w8 : m6.1 51 0 f.toNat = m4.1 51 0 f.toNat := by rw [hm6]; rfl
        have hRm6 : zRI m6 := by rw [hm6]; exact zRI_w55 (p := f) (i := i) (b := b) hRm4 (zB_ct hGm4) (by omega) (Or.inl rfl)
        obtain ⟨v9, hv9⟩ := hs
        rw [show t = y from by omega] at hv9
        exact ww_rV rfl rfl ⟨rfl, rfl, zB_mono hGm6 (by omega), hFm6, ⟨hRm6, ⟨by omega, zfr_tr zfr_rf hFm6 (fun k i j z => z), ⟨m, v9, hv9, (by rw [hm6]; exact funext fun j => (hEm4 56 0 j (show ¬ ((56 = 58) ∨ (56 = 59) ∨ (56 = 60) ∨ (56 = 61) ∨ (56 = 34 ∧ j = 30)) from by omega)).1)⟩, (by have z9 := zRdr_L hr3.2.2; rw [zLR_e h56 (fun k j z => by unfold ze56 at z; omega)] at z9; rw [hm6]; exact z9), fun j hj => (by rw [hm6, wuI_at (by omega) hj, (hEm4 55 0 j.toNat (show ¬ ((55 = 58) ∨ (55 = 59) ∨ (55 = 60) ∨ (55 = 61) ∨ (55 = 34 ∧ j.toNat = 30)) from by omega)).1, (h56 55 0 j.toNat (by unfold ze56; omega)).1])⟩⟩⟩
      · show wW (zK sc) zM246 9 [(0, .inr (.inr (.inl (some (34, 0))))), (1, .inl (7 * f + i)), (2, .inl b), (3, .inl y), (4, .inl t)] [] _ _ _
        have t9 := wshl_rg 1 t
        have t10 : 0 ≤ t ∧ t ≤ 30 → 1 ≤ wshl 1 t := wshl1_rg
        refine ww_go 9 (pc' := 19) (L' := [(0, .inr (.inr (.inl (some (34, 0))))), (1, .inl (7 * f + i)), (2, .inl b), (3, .inl y), (4, .inl t)]) (st' := [.inl (wshl 1 t), .inl b, .inl (7 * f + i), .inr (.inr (.inl (some (34, 0)))), .inl b, .inl (7 * f + i), .inr (.inr (.inl (some (34, 0))))]) (m' := m) (o := none) rfl trivial ?_
        refine ww_call (vs := [.inr (.inr (.inl (some (34, 0)))), .inl (7 * f + i), .inl b, .inl (wshl 1 t)]) (r := [.inl b, .inl (7 * f + i), .inr (.inr (.inl (some (34, 0))))]) (p := 0 < 1) rfl rfl rfl rfl (show 0 < 1 from by omega) (yt247 (c := c) (by omega) (7 * f + i) b (wshl 1 t) hGm (by have z9 := wshl_1 (k := t) (by omega); have z8 : 2 ^ t.toNat ≤ 2 ^ 7 := Nat.pow_le_pow_right (by decide) (by omega); omega) (zRb_56 hb h56)) ?_
        rintro _ _ _ ⟨r11, rfl, rfl, rfl, hr12⟩
        show wW (zK sc) zM246 22 [(0, .inr (.inr (.inl (some (34, 0))))), (1, .inl (7 * f + i)), (2, .inl b), (3, .inl y), (4, .inl t)] [.inl r11, .inl b, .inl (7 * f + i), .inr (.inr (.inl (some (34, 0))))] _ _ _
        refine ww_call (vs := [.inr (.inr (.inl (some (34, 0)))), .inl (7 * f + i), .inl b, .inl r11]) (r := []) (p := 0 < 1) rfl rfl rfl rfl (show 0 < 1 from by omega) (yt251 (c := c) (by omega) (7 * f + i) b r11 hGm (by have z9 := hr12; omega)) ?_
        rintro _ _ _ ⟨r13, rfl, rfl, rfl, hr14⟩
        show wW (zK sc) zM246 25 [(0, .inr (.inr (.inl (some (34, 0))))), (1, .inl (7 * f + i)), (2, .inl b), (3, .inl y), (4, .inl t)] [.inr (.inl r13)] _ _ _
        refine ww_go 3 (pc' := 30) (L' := [(7, .inl 0), (5, .inr (.inl r13)), (0, .inr (.inr (.inl (some (34, 0))))), (1, .inl (7 * f + i)), (2, .inl b), (3, .inl y), (4, .inl t)]) (st' := []) (m' := m) (o := none) rfl trivial ?_
        refine ww_sub (L := [(0, .inr (.inr (.inl (some (34, 0))))), (1, .inl (7 * f + i)), (2, .inl b), (3, .inl y), (4, .inl t), (5, .inr (.inl r13)), (7, .inl 0)]) ⟨rfl, rfl, rfl, rfl, rfl, rfl, rfl, trivial⟩ rfl rfl ?_
        exact (ih _ (by omega)).2 t r13 0 m rfl (zB_mono hGm (by omega)) hFm hRm (by omega) (by exact h56) (by obtain ⟨v9, hv9⟩ := hs; exact zSp_0 hv9 (by omega)) (by exact (zok_56 h56).1 (zok_i hr12 hr14 (by rw [wshl_1 (by omega)]; rfl)))
    · intro t v k m hd hGm hFm hRm hi h56 hs hv
      have k9 : ¬ k < 8 → k = 8 := fun z => by omega
      refine ww_go 2 (pc' := 34) (L' := [(0, .inr (.inr (.inl (some (34, 0))))), (1, .inl (7 * f + i)), (2, .inl b), (3, .inl y), (4, .inl t), (5, .inr (.inl v)), (7, .inl k)]) (st' := [.inl 8, .inl k]) (m' := m) (o := none) rfl trivial ?_
      refine ww_ic (t := 93) rfl rfl (by omega) (fun (h1 : 8 ≤ k) => ?_) (fun (h1 : ¬ (8 ≤ k)) => ?_)
      · show wW (zK sc) zM246 93 [(0, .inr (.inr (.inl (some (34, 0))))), (1, .inl (7 * f + i)), (2, .inl b), (3, .inl y), (4, .inl t), (5, .inr (.inl v)), (7, .inl k)] [] _ _ _
        refine ww_go 2 (pc' := 3) (L' := [(4, .inl (t + 1)), (0, .inr (.inr (.inl (some (34, 0))))), (1, .inl (7 * f + i)), (2, .inl b), (3, .inl y), (5, .inr (.inl v)), (7, .inl k)]) (st' := []) (m' := m) (o := none) rfl trivial ?_
        refine ww_sub (L := [(0, .inr (.inr (.inl (some (34, 0))))), (1, .inl (7 * f + i)), (2, .inl b), (3, .inl y), (4, .inl (t + 1))]) ⟨rfl, rfl, rfl, rfl, rfl, trivial⟩ rfl rfl ?_
        exact (ih _ (by omega)).1 (t + 1) m rfl (zB_mono hGm (by omega)) hFm hRm (by omega) (by exact h56) (by exact zSp_8 (k9 (by omega) ▸ hs) (by omega) hv)
      · show wW (zK sc) zM246 37 [(0, .inr (.inr (.inl (some (34, 0))))), (1, .inl (7 * f + i)), (2, .inl b), (3, .inl y), (4, .inl t), (5, .inr (.inl v)), (7, .inl k)] [] _ _ _
        refine ww_go 12 (pc' := 56) (L' := [(8, .inl (((64 * b) + (8 * t)) + k)), (0, .inr (.inr (.inl (some (34, 0))))), (1, .inl (7 * f + i)), (2, .inl b), (3, .inl y), (4, .inl t), (5, .inr (.inl v)), (7, .inl k)]) (st' := [.inl 104, .inl (((64 * b) + (8 * t)) + k)]) (m' := m) (o := none) rfl trivial ?_
        refine ww_ic (t := 87) rfl rfl (by omega) (fun (h2 : 104 ≤ ((64 * b) + (8 * t)) + k) => ?_) (fun (h2 : ¬ (104 ≤ ((64 * b) + (8 * t)) + k)) => ?_)
        · show wW (zK sc) zM246 87 [(8, .inl (((64 * b) + (8 * t)) + k)), (0, .inr (.inr (.inl (some (34, 0))))), (1, .inl (7 * f + i)), (2, .inl b), (3, .inl y), (4, .inl t), (5, .inr (.inl v)), (7, .inl k)] [] _ _ _
          refine ww_go 2 (pc' := 30) (L' := [(7, .inl (k + 1)), (8, .inl (((64 * b) + (8 * t)) + k)), (0, .inr (.inr (.inl (some (34, 0))))), (1, .inl (7 * f + i)), (2, .inl b), (3, .inl y), (4, .inl t), (5, .inr (.inl v))]) (st' := []) (m' := m) (o := none) rfl trivial ?_
          refine ww_sub (L := [(0, .inr (.inr (.inl (some (34, 0))))), (1, .inl (7 * f + i)), (2, .inl b), (3, .inl y), (4, .inl t), (5, .inr (.inl v)), (7, .inl (k + 1))]) ⟨rfl, rfl, rfl, rfl, rfl, rfl, rfl, trivial⟩ rfl rfl ?_
          exact (ih _ (by omega)).2 t v (k + 1) m rfl (zB_mono hGm (by omega)) hFm hRm (by omega) (by exact h56) (by exact zSp_n hs (by omega) (by omega)) (by exact hv)
        · show wW (zK sc) zM246 59 [(8, .inl (((64 * b) + (8 * t)) + k)), (0, .inr (.inr (.inl (some (34, 0))))), (1, .inl (7 * f + i)), (2, .inl b), (3, .inl y), (4, .inl t), (5, .inr (.inl v)), (7, .inl k)] [] _ _ _
          have t3 := wl2i_rg ((v >>> (wi2l (56 - (8 * k)) &&& 63)) &&& (Int64.ofInt 255))
          have t4 := wl2i_255 (v >>> (wi2l (56 - (8 * k)) &&& 63))
          refine ww_go 18 (pc' := 87) (L' := [(8, .inl (((64 * b) + (8 * t)) + k)), (0, .inr (.inr (.inl (some (34, 0))))), (1, .inl (7 * f + i)), (2, .inl b), (3, .inl y), (4, .inl t), (5, .inr (.inl v)), (7, .inl k)]) (st' := []) (m' := wuI m 56 0 (((104 * (7 * f + i)) + (((64 * b) + (8 * t)) + k)).toNat) (wl2i ((v >>> (wi2l (56 - (8 * k)) &&& 63)) &&& (Int64.ofInt 255)))) (o := some ((0 < 1) ∧ (0 < 1 ∧ 0 ≤ (104 * (7 * f + i)) + (((64 * b) + (8 * t)) + k) ∧ (104 * (7 * f + i)) + (((64 * b) + (8 * t)) + k) < ((5824 : Nat) : Int)))) rfl (show (0 < 1) ∧ (0 < 1 ∧ 0 ≤ (104 * (7 * f + i)) + (((64 * b) + (8 * t)) + k) ∧ (104 * (7 * f + i)) + (((64 * b) + (8 * t)) + k) < ((5824 : Nat) : Int)) from by omega) ?_
          obtain ⟨m5, hm5⟩ : ∃ zq9 : wm, zq9 = wuI m 56 0 (((104 * (7 * f + i)) + (((64 * b) + (8 * t)) + k)).toNat) (wl2i ((v >>> (wi2l (56 - (8 * k)) &&& 63)) &&& (Int64.ofInt 255))) := ⟨_, rfl⟩
          rw [← hm5]
          have hGm5 : zB c m5 := by rw [hm5]; exact zB_wI rfl (show 0 ≤ wl2i ((v >>> (wi2l (56 - (8 * k)) &&& 63)) &&& (Int64.ofInt 255)) ∧ wl2i ((v >>> (wi2l (56 - (8 * k)) &&& 63)) &&& (Int64.ofInt 255)) ≤ 255 from by omega) hGm
          have hFm5 : zfr (fun k i j => (k = 58) ∨ (k = 59) ∨ (k = 60) ∨ (k = 61) ∨ (k = 34 ∧ j = 30) ∨ (k = 56) ∨ (k = 55)) m0 m5 := by rw [hm5]; exact zfr_wI hFm (show (56 = 58) ∨ (56 = 59) ∨ (56 = 60) ∨ (56 = 61) ∨ (56 = 34 ∧ (((104 * (7 * f + i)) + (((64 * b) + (8 * t)) + k)).toNat) = 30) ∨ (56 = 56) ∨ (56 = 55) from Or.inr (Or.inr (Or.inr (Or.inr (Or.inr (Or.inl rfl))))))
          have s6 : m5.1 56 0 (((104 * (7 * f + i)) + (((64 * b) + (8 * t)) + k)).toNat) = wl2i ((v >>> (wi2l (56 - (8 * k)) &&& 63)) &&& (Int64.ofInt 255)) := by rw [hm5]; exact wuI_self
          have w7 : m5.1 51 0 f.toNat = m.1 51 0 f.toNat := by rw [hm5]; rfl
          have hRm5 : zRI m5 := by rw [hm5]; exact zRI_w56 (p := f) (i := i) (a := (((64 * b) + (8 * t)) + k)) hRm (zB_ct hGm) (by omega) (hg.imp id (fun z => by omega))
          refine ww_go 2 (pc' := 30) (L' := [(7, .inl (k + 1)), (8, .inl (((64 * b) + (8 * t)) + k)), (0, .inr (.inr (.inl (some (34, 0))))), (1, .inl (7 * f + i)), (2, .inl b), (3, .inl y), (4, .inl t), (5, .inr (.inl v))]) (st' := []) (m' := m5) (o := none) rfl trivial ?_
          refine ww_sub (L := [(0, .inr (.inr (.inl (some (34, 0))))), (1, .inl (7 * f + i)), (2, .inl b), (3, .inl y), (4, .inl t), (5, .inr (.inl v)), (7, .inl (k + 1))]) ⟨rfl, rfl, rfl, rfl, rfl, rfl, rfl, trivial⟩ rfl rfl ?_
          exact (ih _ (by omega)).2 t v (k + 1) m5 rfl (zB_mono hGm5 (by omega)) hFm5 hRm5 (by omega) (by rw [hm5]; exact zfr_wI h56 rfl) (by exact zSp_w hs (by omega) (by omega) rfl (by omega) rfl hm5) (by exact hv)
set_option maxRecDepth 8000 in
/-- Mo.solve -/
theorem yt246 {sc : xSc} {n : Nat × Nat} {m0 : wm} {c : Int} (hc : 0 ≤ c ∧ c ≤ 1000000) (b : Int) (y : Int) (f : Int) (i : Int) (hG : zB c m0) (hR : zRI m0) (h0 : 0 ≤ f ∧ f ≤ 7 ∧ 0 ≤ i ∧ i ≤ 6 ∧ 0 ≤ b ∧ b ≤ 1 ∧ 1 ≤ y ∧ y ≤ 8) (hg : 1 ≤ i ∨ m0.1 51 0 f.toNat ≠ 1) (hb : zRb m0) : wX (zK sc) 246 [.inr (.inr (.inl (some (34, 0)))), .inl (7 * f + i), .inl b, .inl y] n m0 (wr (fun vv n1 m1 => vv = none ∧ n = n1 ∧ zB c m1 ∧ zfr (fun k i j => (k = 58) ∨ (k = 59) ∨ (k = 60) ∨ (k = 61) ∨ (k = 34 ∧ j = 30) ∨ (k = 56) ∨ (k = 55)) m0 m1 ∧ (zRI m1 ∧ (m1.1 55 0 ((2 * (7 * f + i) + b).toNat) = 1 ∧ zSv m0 m1 (7 * f + i) b y)))) := by
  refine wX_of (N := zM246) rfl (Nat.le_of_ble_eq_true rfl) ?_
  show wW (zK sc) zM246 0 [(0, .inr (.inr (.inl (some (34, 0))))), (1, .inl (7 * f + i)), (2, .inl b), (3, .inl y)] [] n m0 _
  have hF : zfr (fun k i j => (k = 58) ∨ (k = 59) ∨ (k = 60) ∨ (k = 61) ∨ (k = 34 ∧ j = 30) ∨ (k = 56) ∨ (k = 55)) m0 m0 := zfr_rf
  refine ww_go 2 (pc' := 3) (L' := [(4, .inl 0), (0, .inr (.inr (.inl (some (34, 0))))), (1, .inl (7 * f + i)), (2, .inl b), (3, .inl y)]) (st' := []) (m' := m0) (o := none) rfl trivial ?_
  refine ww_sub (L := [(0, .inr (.inr (.inl (some (34, 0))))), (1, .inl (7 * f + i)), (2, .inl b), (3, .inl y), (4, .inl 0)]) ⟨rfl, rfl, rfl, rfl, rfl, trivial⟩ rfl rfl ?_
  exact (yt246_l3 hc b y f i hG hR h0 hg hb _).1 0 m0 rfl (zB_mono hG (by omega)) hF hR (by omega) (by exact zfr_rf) (by exact ⟨_, zSp_i⟩)
