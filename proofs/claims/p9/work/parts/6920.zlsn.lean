/-! The class's receiver: a packet heard. -/
def zeK (t i k a b : Nat) : Prop := (22 ≤ k ∧ k ≤ 25) ∨ (k = 1 ∧ a = 101 + 7 * t + i ∧ b = 1) ∨ (k = 2 ∧ a = 101 + 7 * t + i) ∨ (k = 28 ∧ a = t ∧ 2 * i ≤ b ∧ b ≤ 2 * i + 1)
def zeL (t k a b : Nat) : Prop := (22 ≤ k ∧ k ≤ 25) ∨ (k = 1 ∧ 101 + 7 * t ≤ a ∧ a < 108 + 7 * t ∧ b = 1) ∨ (k = 26 ∧ a = t ∧ 9 ≤ b ∧ b ≤ 10) ∨ (28 ≤ k ∧ k ≤ 33 ∧ a = t)
def zeD (k i j : Nat) : Prop := (k = 26 ∧ i < 8 ∧ j = 8) ∨ (k = 1 ∧ i = 2 ∧ j = 1) ∨ (k = 2 ∧ i = 2) ∨ (k = 16) ∨ (k = 17) ∨ (k = 18)
/-- the place of the packet's version -/
def zPv (m : wm) (s e : Nat) : Prop := e < 8 ∧ 4 * (zBat m s 1).toNat ≤ e ∧ e < 4 * (zBat m s 1).toNat + 4 ∧ m.1 26 e 7 = 256 * zBat m s 2 + zBat m s 3 ∧ 0 ≤ m.1 22 0 3
/-- kept, the block not solved -/
def zL0 (m m1 : wm) (s e : Nat) : Prop := zK0 m m1 e (zBat m s 1) s ∧ zfr (zeK e (zBat m s 4).toNat) m m1
/-- kept, the block solved -/
def zL1 (m m1 : wm) (s e : Nat) : Prop := zK1 m m1 e (zBat m s 1) s ∧ zfr (zeK e (zBat m s 4).toNat) m m1
/-- the item complete, looked at, files held alike, judged -/
def zL2 (m m1 : wm) (x y : Int) (e : Nat) : Prop := ∃ ml mh, zLa m ml e y x ∧ zfr (zeL e) m ml ∧ zHk x ml mh ∧ zHcl mh x ∧ zfr zeD mh m1
def zLsn (m0 m1 : wm) (s : Nat) (r : Int) : Prop := (r ≠ 0 ∧ ∃ m, zWd m0 m s r ∧ zfr (fun k i j => (k = 19 ∧ j = 6)) m m1 ∧ m1.1 19 0 6 = m.1 19 0 6 + 1) ∨ (r = 0 ∧ ∃ (m : wm) (e : Nat), zWd m0 m s 0 ∧ zPv m s e ∧ (zL0 m m1 s e ∨ ∃ mk, zL1 m mk s e ∧ ((¬ zCpx mk e (zBat m s 4).toNat ∧ mk = m1) ∨ (zCpx mk e (zBat m s 4).toNat ∧ zL2 mk m1 (zBat m s 1) (zBat m s 4) e))))
def zL9 (m0 m1 : wm) (s : Nat) : Prop := ∃ (m : wm) (e : Nat) (mk : wm), zWd m0 m s 0 ∧ zPv m s e ∧ zL1 m mk s e ∧ zCpx mk e (zBat m s 4).toNat ∧ zL2 mk m1 (zBat m s 1) (zBat m s 4) e
theorem zWd_rg {m0 m1 : wm} {s : Nat} {r : Int} (h : zWd m0 m1 s r) : 0 ≤ r ∧ r ≤ 6 := by
  rcases h with h | h | h | h | h | h | h
  all_goals (have := h.1; omega)
theorem zWrx_26 {m m1 : wm} (h : zWrx m m1) : (∀ t j, m1.1 26 t j = m.1 26 t j) ∧ ∀ k a j, k < 22 → m1.1 k a j = m.1 k a j := by
  rcases h with ⟨-, rfl⟩ | ⟨-, o, -, -, -, hf⟩
  · exact ⟨fun _ _ => rfl, fun _ _ _ _ => rfl⟩
  · exact ⟨fun t j => (hf 26 t j (by omega)).1, fun k a j hk => (hf k a j (by omega)).1⟩
theorem zBat_q {m m1 : wm} (h : ∀ k a j, k < 22 → m1.1 k a j = m.1 k a j) (s : Nat) (x : Int) : zBat m1 s x = zBat m s x := by
  unfold zBat
  rw [h 1 s 1 (by omega), h 2 s x.toNat (by omega)]
theorem zBat_w {m m1 : wm} {x y : Int} {r s : Nat} (h : zLea m m1 x y r) (hs : s < 101) (a : Int) : zBat m1 s a = zBat m s a := zBat_fr a h.2.1 (by unfold zLe0; omega) (fun j => by unfold zLe0; omega)
theorem zBat_n {m m1 : wm} {x : Int} {s : Nat} (h : zNlf m m1 x) (a : Int) : zBat m1 s a = zBat m s a := zBat_fr a h.1 (by omega) (fun j => by omega)
theorem zLC_len {m : wm} : (zLC m).length = zCu0 m := by unfold zLC; rw [List.length_map, List.length_range]
theorem zLR_len {m : wm} : (zLR m).length = zRu m := by unfold zLR; rw [List.length_map, List.length_range]
/-- sums of fewer rows -/
theorem zspL_sub {l l' : List zRo} (h : l.Sublist l') : ∀ {p : zRo}, zspL l p → zspL l' p := by
  induction h with
  | slnil => exact fun h => h
  | cons a _ ih => exact fun h => Or.inl (ih h)
  | cons_cons a _ ih => exact fun h => h.imp ih ih
/-- a block's rows -/
def zcb (k : Int) (l : List (Int × Int × Int64)) : List zRo := (l.filter (fun r => decide (r.1 = k))).map (fun r => (r.2.1.toNat, r.2.2))
def zrb (q b : Int) (l : List (Int × Int × Int × Int64)) : List zRo := (l.filter (fun r => decide (r.1 = q ∧ r.2.1 = b))).map (fun r => (r.2.2.1.toNat, r.2.2.2))
theorem zKp_L {m : wm} {k : Int} {p : zRo} : zsq (zKp m k) (zCw m) (zCu0 m) p ↔ zspL (zcb k (zLC m)) p := by
  rw [zsq_L]
  unfold zcb zLC
  rw [← zL_fm, List.map_map]
  exact Iff.rfl
theorem zRp_L {m : wm} {q b : Int} {p : zRo} : zsq (zRp m q b) (zRw m) (zRu m) p ↔ zspL (zrb q b (zLR m)) p := by
  rw [zsq_L]
  unfold zrb zLR
  rw [← zL_fm, List.map_map]
  exact Iff.rfl
theorem zcb_sub {k : Int} {l l' : List (Int × Int × Int64)} (h : l.Sublist l') : (zcb k l).Sublist (zcb k l') := (h.filter _).map _
/-- what was heard is there -/
theorem zWd_0 {m0 m1 : wm} {s : Nat} (hs : s < 101) (h : zWd m0 m1 s 0) : (∀ a, zBat m1 s a = zBat m0 s a) ∧ (zBat m1 s 1 ≤ 1 ∧ zBat m1 s 4 ≤ 6 ∧ (zBat m1 s 5 = 0 ∨ zBat m1 s 5 = 1 ∧ 64 < zBat m1 s 7) ∧ zBat m1 s 7 ≤ 104 ∧ m1.1 22 0 3 ≤ 23) ∧ (∃ u : Nat, 4 * (zBat m1 s 1).toNat ≤ u ∧ u < 4 * (zBat m1 s 1).toNat + 4 ∧ m1.1 26 u 7 = 256 * zBat m1 s 2 + zBat m1 s 3) ∧ ∃ m, ¬ zWt m s ∧ zWrx m m1 ∧ ∀ a, zBat m1 s a = zBat m s a := by
  rcases h with h | h | h | h | h | h | ⟨-, u, m, ⟨⟨ma, ⟨w1, w2, w3⟩, w4, w5⟩, w6⟩, w7, w8⟩
  · exact absurd h.1 (by omega)
  · exact absurd h.1 (by omega)
  · exact absurd h.1 (by omega)
  · exact absurd h.1 (by omega)
  · exact absurd h.1 (by omega)
  · exact absurd h.1 (by omega)
  · have e1 : ∀ a, zBat ma s a = zBat m0 s a := fun a => zBat_n w2 a
    have e2 : ∀ a, zBat m s a = zBat ma s a := fun a => zBat_w w5 hs a
    have e3 : ∀ a, zBat m1 s a = zBat m s a := fun a => zBat_q (zWrx_26 w8).2 s a
    have e4 : ∀ a, zBat m1 s a = zBat m0 s a := fun a => by rw [e3, e2, e1]
    have e5 : ∀ a, zBat m1 s a = zBat ma s a := fun a => by rw [e3, e2]
    refine ⟨e4, ⟨?_, ?_, ?_, ?_, ?_⟩, ⟨u, ?_, ?_, ?_⟩, m, w7, w8, e3⟩
    · rw [e5]; exact w4.1
    · rw [e5]; exact w4.2.2.1
    · rw [e5, e5]; exact w4.2.2.2.2.1
    · rw [e5]; exact w4.2.2.2.1
    · rcases w8 with ⟨q1, rfl⟩ | ⟨q1, o, q2, q3, q4, q5⟩
      · exact q1
      · rcases q2 with ⟨r1, -⟩ | ⟨-, -, ⟨j, j1, j2⟩, -⟩
        · omega
        · have hl : (zLC m1).length < (zLC m).length := by
            rw [q4]
            refine List.length_filter_lt_length_iff_exists.2 ⟨_, List.mem_map.2 ⟨j, List.mem_range.2 (by unfold zCu0; omega), rfl⟩, ?_⟩
            intro z
            have z9 : m.1 23 0 j < 16 * o ∨ 16 * o + 15 < m.1 23 0 j := of_decide_eq_true z
            omega
          rw [zLC_len, zLC_len] at hl
          unfold zCu0 at hl
          omega
    · rw [e4]; exact w5.1.2.1
    · rw [e4]; exact w5.1.2.2
    · rw [(zWrx_26 w8).1, e4, e4]
      rcases w5.2.2 with z | z
      · rw [← z.2]; exact z.1
      · exact z.2.2.2.1
theorem zWd_C {m0 m1 : wm} {s : Nat} (hE : zCe m0) (h : zWd m0 m1 s 0) : zCe m1 := by
  rcases h with h | h | h | h | h | h | ⟨-, u, m, ⟨⟨ma, ⟨w1, w2, w3⟩, w4, w5⟩, w6⟩, w7, w8⟩
  · exact absurd h.1 (by omega)
  · exact absurd h.1 (by omega)
  · exact absurd h.1 (by omega)
  · exact absurd h.1 (by omega)
  · exact absurd h.1 (by omega)
  · exact absurd h.1 (by omega)
  · have e := zCe_le (zCe_nl hE w2) w5.2.2
    rcases w8 with ⟨q1, rfl⟩ | ⟨q1, o, q2, q3, q4, q5⟩
    · exact e
    · exact zCe_f e q4
theorem zWrx_s {m m1 : wm} (h : zWrx m m1) : (zLC m1).Sublist (zLC m) := by
  rcases h with ⟨q1, rfl⟩ | ⟨q1, o, q2, q3, q4, q5⟩
  · exact List.Sublist.refl _
  · rw [q4]; exact List.filter_sublist
theorem zWd_N {m0 m1 : wm} {s e : Nat} (hs : s < 101) (h : zWd m0 m1 s 0) (he : m1.1 26 e 7 = 256 * zBat m1 s 2 + zBat m1 s 3) : ¬ ∃ v, zsq (zKp m1 (zkK m1 e (zBat m1 s 1) s)) (zCw m1) (zCu0 m1) ((zkM m1 s).toNat, v) := by
  obtain ⟨-, -, -, m, h1, h2, h3⟩ := zWd_0 hs h
  rintro ⟨v, hv⟩
  refine h1 ⟨v, ?_⟩
  have eK : zkK m1 e (zBat m1 s 1) s = zWk m s := by
    unfold zkK zWk
    rw [he, h3, h3, h3, h3, h3]
  have eM : zkM m1 s = zkM m s := by
    unfold zkM
    rw [h3, h3, h3, h3, h3, h3]
  rw [eK, eM] at hv
  exact zKp_L.2 (zspL_sub (zcb_sub (zWrx_s h2)) (zKp_L.1 hv))
