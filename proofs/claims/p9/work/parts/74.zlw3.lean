def zQ : wQ := fun o n m => o = .inl (some (.inl 1)) ∧ n.1 ≤ 1100 ∧ n.2 ≤ 40000
set_option maxRecDepth 8000 in
/-- the law's loop -/
theorem zloop {N : Nat} {xs : Nat → Int32} (hN : N ≤ 2560) : ∀ (d t : Nat) (ix : Int) (n : Nat × Nat) (m : wm), 600 - t = d → ix = 5 * (t : Int) → ix ≤ (N : Int) → zLq t n m → wW (zK (N + 1, xs)) zM259 23 [(4, .inl ix), (3, .inr (.inr (.inl (some (73, 0))))), (2, .inr (.inr (.inl (some (34, 0))))), (1, .inr (.inr (.inl (some (0, 0))))), (0, .inr (.inr (.inr 0)))] [] n m zQ := by
  intro d
  induction d using Nat.strongRecOn with
  | ind d ih =>
    intro t ix n m hd hi ht hq
    have hE : ∀ n1 m1, zLq (t + 1) n1 m1 → ix + 5 ≤ (N : Int) → wW (zK (N + 1, xs)) zM259 939 [(4, .inl ix), (3, .inr (.inr (.inl (some (73, 0))))), (2, .inr (.inr (.inl (some (34, 0))))), (1, .inr (.inr (.inl (some (0, 0))))), (0, .inr (.inr (.inr 0)))] [] n1 m1 zQ := fun n1 m1 hq1 hl => by
      refine ww_go 2 (pc' := 23) (L' := [(4, .inl (ix + 5)), (3, .inr (.inr (.inl (some (73, 0))))), (2, .inr (.inr (.inl (some (34, 0))))), (1, .inr (.inr (.inl (some (0, 0))))), (0, .inr (.inr (.inr 0)))]) (st' := []) (m' := m1) (o := none) rfl trivial ?_
      exact ih _ (by omega) (t + 1) (ix + 5) n1 m1 rfl (by omega) hl hq1
    have x0 := zsc_rg (xs ix.toNat)
    refine ww_go 5 (pc' := 29) (L' := [(4, .inl ix), (3, .inr (.inr (.inl (some (73, 0))))), (2, .inr (.inr (.inl (some (34, 0))))), (1, .inr (.inr (.inl (some (0, 0))))), (0, .inr (.inr (.inr 0)))]) (st' := [.inl ((((N : Nat) : Int)) - 5), .inl ix]) (m' := m) (o := none) rfl trivial ?_
    refine ww_ic (t := 945) rfl rfl (by omega) (fun (h1 : (((N : Nat) : Int)) - 5 < ix) => ?_) (fun (h1 : ¬ ((((N : Nat) : Int)) - 5 < ix)) => ?_)
    · show wW (zK (N + 1, xs)) zM259 945 [(4, .inl ix), (3, .inr (.inr (.inl (some (73, 0))))), (2, .inr (.inr (.inl (some (34, 0))))), (1, .inr (.inr (.inl (some (0, 0))))), (0, .inr (.inr (.inr 0)))] [] _ _ _
      refine ww_go 1 (pc' := 946) (L' := [(4, .inl ix), (3, .inr (.inr (.inl (some (73, 0))))), (2, .inr (.inr (.inl (some (34, 0))))), (1, .inr (.inr (.inl (some (0, 0))))), (0, .inr (.inr (.inr 0)))]) (st' := [.inl 1]) (m' := m) (o := none) rfl trivial ?_
      exact ww_rB rfl rfl (by omega) ⟨rfl, by have := hq.1; omega, by have := hq.2.1; omega⟩
    · show wW (zK (N + 1, xs)) zM259 32 [(4, .inl ix), (3, .inr (.inr (.inl (some (73, 0))))), (2, .inr (.inr (.inl (some (34, 0))))), (1, .inr (.inr (.inl (some (0, 0))))), (0, .inr (.inr (.inr 0)))] [] _ _ _
      have hE := fun n1 m1 hq1 => hE n1 m1 hq1 (by omega)
      have t2 := wand_rg ((xs ix.toNat).toInt) 31
      have t3 := wand_m31 ((xs ix.toNat).toInt)
      refine ww_go 5 (pc' := 39) (L' := [(4, .inl ix), (3, .inr (.inr (.inl (some (73, 0))))), (2, .inr (.inr (.inl (some (34, 0))))), (1, .inr (.inr (.inl (some (0, 0))))), (0, .inr (.inr (.inr 0)))]) (st' := [.inl (wand ((xs ix.toNat).toInt) 31)]) (m' := m) (o := some ((0 ≤ ix ∧ ix < (N : Nat) ∧ ix ≤ 2147483647))) rfl (show (0 ≤ ix ∧ ix < (N : Nat) ∧ ix ≤ 2147483647) from by omega) ?_
      refine ww_tab rfl (by omega) (td := 939) rfl (fun (h4 : wand ((xs ix.toNat).toInt) 31 < 0 ∨ 19 < wand ((xs ix.toNat).toInt) 31) => ?_) (fun h4a h4b => ?_)
      · show wW (zK (N + 1, xs)) zM259 939 [(4, .inl ix), (3, .inr (.inr (.inl (some (73, 0))))), (2, .inr (.inr (.inl (some (34, 0))))), (1, .inr (.inr (.inl (some (0, 0))))), (0, .inr (.inr (.inr 0)))] [] _ _ _
        exact hE n m ⟨by have := hq.1; omega, by have := hq.2.1; omega, zB_mono hq.2.2.1 (by omega), hq.2.2.2.1, zRL_s hq.2.2.2.2.1, hq.2.2.2.2.2⟩
      · rcases (show wand ((xs ix.toNat).toInt) 31 = 0 ∨ wand ((xs ix.toNat).toInt) 31 = 1 ∨ wand ((xs ix.toNat).toInt) 31 = 2 ∨ wand ((xs ix.toNat).toInt) 31 = 3 ∨ wand ((xs ix.toNat).toInt) 31 = 4 ∨ wand ((xs ix.toNat).toInt) 31 = 5 ∨ wand ((xs ix.toNat).toInt) 31 = 6 ∨ wand ((xs ix.toNat).toInt) 31 = 7 ∨ wand ((xs ix.toNat).toInt) 31 = 8 ∨ wand ((xs ix.toNat).toInt) 31 = 9 ∨ wand ((xs ix.toNat).toInt) 31 = 10 ∨ wand ((xs ix.toNat).toInt) 31 = 11 ∨ wand ((xs ix.toNat).toInt) 31 = 12 ∨ wand ((xs ix.toNat).toInt) 31 = 13 ∨ wand ((xs ix.toNat).toInt) 31 = 14 ∨ wand ((xs ix.toNat).toInt) 31 = 15 ∨ wand ((xs ix.toNat).toInt) 31 = 16 ∨ wand ((xs ix.toNat).toInt) 31 = 17 ∨ wand ((xs ix.toNat).toInt) 31 = 18 ∨ wand ((xs ix.toNat).toInt) 31 = 19 from by omega) with h4 | h4 | h4 | h4 | h4 | h4 | h4 | h4 | h4 | h4 | h4 | h4 | h4 | h4 | h4 | h4 | h4 | h4 | h4 | h4
        · refine ⟨93, 132, by rw [h4]; rfl, rfl, ?_⟩
          show wW (zK (N + 1, xs)) zM259 132 [(4, .inl ix), (3, .inr (.inr (.inl (some (73, 0))))), (2, .inr (.inr (.inl (some (34, 0))))), (1, .inr (.inr (.inl (some (0, 0))))), (0, .inr (.inr (.inr 0)))] [] _ _ _
          exact zc_feed hi hN (by omega) hq hE
        · refine ⟨193, 232, by rw [h4]; rfl, rfl, ?_⟩
          show wW (zK (N + 1, xs)) zM259 232 [(4, .inl ix), (3, .inr (.inr (.inl (some (73, 0))))), (2, .inr (.inr (.inl (some (34, 0))))), (1, .inr (.inr (.inl (some (0, 0))))), (0, .inr (.inr (.inr 0)))] [] _ _ _
          exact zc_write hi hN (by omega) hq hE
        · refine ⟨221, 260, by rw [h4]; rfl, rfl, ?_⟩
          show wW (zK (N + 1, xs)) zM259 260 [(4, .inl ix), (3, .inr (.inr (.inl (some (73, 0))))), (2, .inr (.inr (.inl (some (34, 0))))), (1, .inr (.inr (.inl (some (0, 0))))), (0, .inr (.inr (.inr 0)))] [] _ _ _
          exact zc_remove hi hN (by omega) hq hE
        · refine ⟨249, 288, by rw [h4]; rfl, rfl, ?_⟩
          show wW (zK (N + 1, xs)) zM259 288 [(4, .inl ix), (3, .inr (.inr (.inl (some (73, 0))))), (2, .inr (.inr (.inl (some (34, 0))))), (1, .inr (.inr (.inl (some (0, 0))))), (0, .inr (.inr (.inr 0)))] [] _ _ _
          exact zc_commit hi hN (by omega) hq hE
        · refine ⟨277, 316, by rw [h4]; rfl, rfl, ?_⟩
          show wW (zK (N + 1, xs)) zM259 316 [(4, .inl ix), (3, .inr (.inr (.inl (some (73, 0))))), (2, .inr (.inr (.inl (some (34, 0))))), (1, .inr (.inr (.inl (some (0, 0))))), (0, .inr (.inr (.inr 0)))] [] _ _ _
          exact zc_send hi hN (by omega) hq hE
        · refine ⟨293, 332, by rw [h4]; rfl, rfl, ?_⟩
          show wW (zK (N + 1, xs)) zM259 332 [(4, .inl ix), (3, .inr (.inr (.inl (some (73, 0))))), (2, .inr (.inr (.inl (some (34, 0))))), (1, .inr (.inr (.inl (some (0, 0))))), (0, .inr (.inr (.inr 0)))] [] _ _ _
          exact zc_packet hi hN (by omega) hq hE
        · refine ⟨333, 372, by rw [h4]; rfl, rfl, ?_⟩
          show wW (zK (N + 1, xs)) zM259 372 [(4, .inl ix), (3, .inr (.inr (.inl (some (73, 0))))), (2, .inr (.inr (.inl (some (34, 0))))), (1, .inr (.inr (.inl (some (0, 0))))), (0, .inr (.inr (.inr 0)))] [] _ _ _
          exact zc_alter hi hN (by omega) hq hE
        · refine ⟨382, 421, by rw [h4]; rfl, rfl, ?_⟩
          show wW (zK (N + 1, xs)) zM259 421 [(4, .inl ix), (3, .inr (.inr (.inl (some (73, 0))))), (2, .inr (.inr (.inl (some (34, 0))))), (1, .inr (.inr (.inl (some (0, 0))))), (0, .inr (.inr (.inr 0)))] [] _ _ _
          exact zc_hear hi hN (by omega) hq hE
        · refine ⟨438, 477, by rw [h4]; rfl, rfl, ?_⟩
          show wW (zK (N + 1, xs)) zM259 477 [(4, .inl ix), (3, .inr (.inr (.inl (some (73, 0))))), (2, .inr (.inr (.inl (some (34, 0))))), (1, .inr (.inr (.inl (some (0, 0))))), (0, .inr (.inr (.inr 0)))] [] _ _ _
          exact zc_restartSender hi hN (by omega) hq hE
        · refine ⟨454, 493, by rw [h4]; rfl, rfl, ?_⟩
          show wW (zK (N + 1, xs)) zM259 493 [(4, .inl ix), (3, .inr (.inr (.inl (some (73, 0))))), (2, .inr (.inr (.inl (some (34, 0))))), (1, .inr (.inr (.inl (some (0, 0))))), (0, .inr (.inr (.inr 0)))] [] _ _ _
          exact zc_restartReceiver hi hN (by omega) hq hE
        · refine ⟨465, 504, by rw [h4]; rfl, rfl, ?_⟩
          show wW (zK (N + 1, xs)) zM259 504 [(4, .inl ix), (3, .inr (.inr (.inl (some (73, 0))))), (2, .inr (.inr (.inl (some (34, 0))))), (1, .inr (.inr (.inl (some (0, 0))))), (0, .inr (.inr (.inr 0)))] [] _ _ _
          exact zc_rule hi hN (by omega) hq hE
        · refine ⟨530, 569, by rw [h4]; rfl, rfl, ?_⟩
          show wW (zK (N + 1, xs)) zM259 569 [(4, .inl ix), (3, .inr (.inr (.inl (some (73, 0))))), (2, .inr (.inr (.inl (some (34, 0))))), (1, .inr (.inr (.inl (some (0, 0))))), (0, .inr (.inr (.inr 0)))] [] _ _ _
          exact zc_have hi hN (by omega) hq hE
        · refine ⟨570, 609, by rw [h4]; rfl, rfl, ?_⟩
          show wW (zK (N + 1, xs)) zM259 609 [(4, .inl ix), (3, .inr (.inr (.inl (some (73, 0))))), (2, .inr (.inr (.inl (some (34, 0))))), (1, .inr (.inr (.inl (some (0, 0))))), (0, .inr (.inr (.inr 0)))] [] _ _ _
          exact zc_rank hi hN (by omega) hq hE
        · refine ⟨634, 673, by rw [h4]; rfl, rfl, ?_⟩
          show wW (zK (N + 1, xs)) zM259 673 [(4, .inl ix), (3, .inr (.inr (.inl (some (73, 0))))), (2, .inr (.inr (.inl (some (34, 0))))), (1, .inr (.inr (.inl (some (0, 0))))), (0, .inr (.inr (.inr 0)))] [] _ _ _
          exact zc_release hi hN (by omega) hq hE
        · refine ⟨662, 701, by rw [h4]; rfl, rfl, ?_⟩
          show wW (zK (N + 1, xs)) zM259 701 [(4, .inl ix), (3, .inr (.inr (.inl (some (73, 0))))), (2, .inr (.inr (.inl (some (34, 0))))), (1, .inr (.inr (.inl (some (0, 0))))), (0, .inr (.inr (.inr 0)))] [] _ _ _
          exact zc_released hi hN (by omega) hq hE
        · refine ⟨690, 729, by rw [h4]; rfl, rfl, ?_⟩
          show wW (zK (N + 1, xs)) zM259 729 [(4, .inl ix), (3, .inr (.inr (.inl (some (73, 0))))), (2, .inr (.inr (.inl (some (34, 0))))), (1, .inr (.inr (.inl (some (0, 0))))), (0, .inr (.inr (.inr 0)))] [] _ _ _
          exact zc_file hi hN (by omega) hq hE
        · refine ⟨770, 809, by rw [h4]; rfl, rfl, ?_⟩
          show wW (zK (N + 1, xs)) zM259 809 [(4, .inl ix), (3, .inr (.inr (.inl (some (73, 0))))), (2, .inr (.inr (.inl (some (34, 0))))), (1, .inr (.inr (.inl (some (0, 0))))), (0, .inr (.inr (.inr 0)))] [] _ _ _
          exact zc_journal hi hN (by omega) hq hE
        · refine ⟨810, 849, by rw [h4]; rfl, rfl, ?_⟩
          show wW (zK (N + 1, xs)) zM259 849 [(4, .inl ix), (3, .inr (.inr (.inl (some (73, 0))))), (2, .inr (.inr (.inl (some (34, 0))))), (1, .inr (.inr (.inl (some (0, 0))))), (0, .inr (.inr (.inr 0)))] [] _ _ _
          exact zc_touch hi hN (by omega) hq hE
        · refine ⟨859, 898, by rw [h4]; rfl, rfl, ?_⟩
          show wW (zK (N + 1, xs)) zM259 898 [(4, .inl ix), (3, .inr (.inr (.inl (some (73, 0))))), (2, .inr (.inr (.inl (some (34, 0))))), (1, .inr (.inr (.inl (some (0, 0))))), (0, .inr (.inr (.inr 0)))] [] _ _ _
          exact zc_isSound hi hN (by omega) hq hE
        · refine ⟨872, 911, by rw [h4]; rfl, rfl, ?_⟩
          show wW (zK (N + 1, xs)) zM259 911 [(4, .inl ix), (3, .inr (.inr (.inl (some (73, 0))))), (2, .inr (.inr (.inl (some (34, 0))))), (1, .inr (.inr (.inl (some (0, 0))))), (0, .inr (.inr (.inr 0)))] [] _ _ _
          exact zc_count hi hN (by omega) hq hE
