/-! Bits: masks and shifts by numbers. -/
theorem wbv_mod (X : Int) (k : Nat) (hk : k ≤ 31) : (BitVec.ofInt 32 X).toNat % 2 ^ k = (X % (2 ^ k : Nat)).toNat := by
  rw [BitVec.toNat_ofInt]
  have h1 : (2 ^ k : Nat) ∣ 2 ^ 32 := Nat.pow_dvd_pow 2 (by omega)
  have h2 : X % ((2 ^ 32 : Nat) : Int) % ((2 ^ k : Nat) : Int) = X % ((2 ^ k : Nat) : Int) := Int.emod_emod_of_dvd X (Int.natCast_dvd_natCast.mpr h1)
  have h3 : 0 ≤ X % ((2 ^ 32 : Nat) : Int) := Int.emod_nonneg _ (by decide)
  rw [← h2]
  generalize X % ((2 ^ 32 : Nat) : Int) = Y at h3
  obtain ⟨y, rfl⟩ := Int.eq_ofNat_of_zero_le h3
  rw [← Int.natCast_emod]
  rfl
theorem wand_m255 (X : Int) : wand X 255 = X % 256 := by
  have e : ((wi X).toBitVec &&& (wi 255).toBitVec).toNat = (X % 256).toNat := by
    rw [BitVec.toNat_and]
    show (BitVec.ofInt 32 X).toNat &&& 2 ^ 8 - 1 = _
    rw [Nat.and_two_pow_sub_one_eq_mod, wbv_mod X 8 (by decide)]
    rfl
  have h1 := Int.emod_nonneg X (b := 256) (by decide)
  have h2 := Int.emod_lt_of_pos X (b := 256) (by decide)
  show ((wi X).toBitVec &&& (wi 255).toBitVec).toInt = _
  rw [BitVec.toInt_eq_toNat_of_lt (by rw [e]; omega), e]
  omega
theorem wand_m1 (X : Int) : wand X 1 = X % 2 := by
  have e : ((wi X).toBitVec &&& (wi 1).toBitVec).toNat = (X % 2).toNat := by
    rw [BitVec.toNat_and]
    show (BitVec.ofInt 32 X).toNat &&& 2 ^ 1 - 1 = _
    rw [Nat.and_two_pow_sub_one_eq_mod, wbv_mod X 1 (by decide)]
    rfl
  have h1 := Int.emod_nonneg X (b := 2) (by decide)
  have h2 := Int.emod_lt_of_pos X (b := 2) (by decide)
  show ((wi X).toBitVec &&& (wi 1).toBitVec).toInt = _
  rw [BitVec.toInt_eq_toNat_of_lt (by rw [e]; omega), e]
  omega
theorem wand_m31 (X : Int) : wand X 31 = X % 32 := by
  have e : ((wi X).toBitVec &&& (wi 31).toBitVec).toNat = (X % 32).toNat := by
    rw [BitVec.toNat_and]
    show (BitVec.ofInt 32 X).toNat &&& 2 ^ 5 - 1 = _
    rw [Nat.and_two_pow_sub_one_eq_mod, wbv_mod X 5 (by decide)]
    rfl
  have h1 := Int.emod_nonneg X (b := 32) (by decide)
  have h2 := Int.emod_lt_of_pos X (b := 32) (by decide)
  show ((wi X).toBitVec &&& (wi 31).toBitVec).toInt = _
  rw [BitVec.toInt_eq_toNat_of_lt (by rw [e]; omega), e]
  omega
theorem wl2i_255 (x : Int64) : 0 ≤ wl2i (x &&& Int64.ofInt 255) ∧ wl2i (x &&& Int64.ofInt 255) ≤ 255 := by
  have e : (x &&& Int64.ofInt 255).toBitVec.toNat = x.toBitVec.toNat % 256 := by
    show (x.toBitVec &&& (Int64.ofInt 255).toBitVec).toNat = _
    rw [BitVec.toNat_and]
    show x.toBitVec.toNat &&& 2 ^ 8 - 1 = _
    rw [Nat.and_two_pow_sub_one_eq_mod]
  have e2 : (x &&& Int64.ofInt 255).toInt = ((x.toBitVec.toNat % 256 : Nat) : Int) := by
    show (x &&& Int64.ofInt 255).toBitVec.toInt = _
    rw [BitVec.toInt_eq_toNat_of_lt (by rw [e]; omega), e]
  unfold wl2i
  rw [Int64.toInt_toInt32, e2, Int.bmod_eq_of_le (by omega) (by omega)]
  omega
theorem wxor_255 {X Y : Int} (hX : 0 ≤ X ∧ X ≤ 255) (hY : 0 ≤ Y ∧ Y ≤ 255) : 0 ≤ wxor X Y ∧ wxor X Y ≤ 255 := by
  have eX : (wi X).toBitVec.toNat = X.toNat := by show (BitVec.ofInt 32 X).toNat = _; rw [BitVec.toNat_ofInt]; omega
  have eY : (wi Y).toBitVec.toNat = Y.toNat := by show (BitVec.ofInt 32 Y).toNat = _; rw [BitVec.toNat_ofInt]; omega
  have e : ((wi X).toBitVec ^^^ (wi Y).toBitVec).toNat < 2 ^ 8 := by
    rw [BitVec.toNat_xor, eX, eY]
    exact Nat.xor_lt_two_pow (by omega) (by omega)
  show 0 ≤ ((wi X).toBitVec ^^^ (wi Y).toBitVec).toInt ∧ ((wi X).toBitVec ^^^ (wi Y).toBitVec).toInt ≤ 255
  rw [BitVec.toInt_eq_toNat_of_lt (by omega)]
  omega
theorem wxor_65535 {X Y : Int} (hX : 0 ≤ X ∧ X ≤ 65535) (hY : 0 ≤ Y ∧ Y ≤ 65535) : 0 ≤ wxor X Y ∧ wxor X Y ≤ 65535 := by
  have eX : (wi X).toBitVec.toNat = X.toNat := by show (BitVec.ofInt 32 X).toNat = _; rw [BitVec.toNat_ofInt]; omega
  have eY : (wi Y).toBitVec.toNat = Y.toNat := by show (BitVec.ofInt 32 Y).toNat = _; rw [BitVec.toNat_ofInt]; omega
  have e : ((wi X).toBitVec ^^^ (wi Y).toBitVec).toNat < 2 ^ 16 := by
    rw [BitVec.toNat_xor, eX, eY]
    exact Nat.xor_lt_two_pow (by omega) (by omega)
  show 0 ≤ ((wi X).toBitVec ^^^ (wi Y).toBitVec).toInt ∧ ((wi X).toBitVec ^^^ (wi Y).toBitVec).toInt ≤ 65535
  rw [BitVec.toInt_eq_toNat_of_lt (by omega)]
  omega
theorem wshr_k {X : Int} {k : Nat} (hk : k < 32) (h1 : -2147483648 ≤ X) (h2 : X ≤ 2147483647) : wshr X k = X / (2 ^ k : Nat) := by
  unfold wshr
  have e : (wi k &&& 31) = wi k := by
    rcases (show k = 0 ∨ k = 1 ∨ k = 2 ∨ k = 3 ∨ k = 4 ∨ k = 5 ∨ k = 6 ∨ k = 7 ∨ k = 8 ∨ k = 9 ∨ k = 10 ∨ k = 11 ∨ k = 12 ∨ k = 13 ∨ k = 14 ∨ k = 15 ∨ k = 16 ∨ k = 17 ∨ k = 18 ∨ k = 19 ∨ k = 20 ∨ k = 21 ∨ k = 22 ∨ k = 23 ∨ k = 24 ∨ k = 25 ∨ k = 26 ∨ k = 27 ∨ k = 28 ∨ k = 29 ∨ k = 30 ∨ k = 31 by omega) with rfl | rfl | rfl | rfl | rfl | rfl | rfl | rfl | rfl | rfl | rfl | rfl | rfl | rfl | rfl | rfl | rfl | rfl | rfl | rfl | rfl | rfl | rfl | rfl | rfl | rfl | rfl | rfl | rfl | rfl | rfl | rfl <;> decide +kernel
  rw [e]
  have e2 : (wi k).toBitVec.smod 32 = BitVec.ofNat 32 k := by
    rcases (show k = 0 ∨ k = 1 ∨ k = 2 ∨ k = 3 ∨ k = 4 ∨ k = 5 ∨ k = 6 ∨ k = 7 ∨ k = 8 ∨ k = 9 ∨ k = 10 ∨ k = 11 ∨ k = 12 ∨ k = 13 ∨ k = 14 ∨ k = 15 ∨ k = 16 ∨ k = 17 ∨ k = 18 ∨ k = 19 ∨ k = 20 ∨ k = 21 ∨ k = 22 ∨ k = 23 ∨ k = 24 ∨ k = 25 ∨ k = 26 ∨ k = 27 ∨ k = 28 ∨ k = 29 ∨ k = 30 ∨ k = 31 by omega) with rfl | rfl | rfl | rfl | rfl | rfl | rfl | rfl | rfl | rfl | rfl | rfl | rfl | rfl | rfl | rfl | rfl | rfl | rfl | rfl | rfl | rfl | rfl | rfl | rfl | rfl | rfl | rfl | rfl | rfl | rfl | rfl <;> decide +kernel
  show ((wi X).toBitVec.sshiftRight' ((wi k).toBitVec.smod 32)).toInt = _
  rw [e2]
  show ((wi X).toBitVec.sshiftRight (BitVec.ofNat 32 k).toNat).toInt = _
  rw [BitVec.toInt_sshiftRight]
  have h3 : (BitVec.ofNat 32 k).toNat = k := by rw [BitVec.toNat_ofNat]; omega
  rw [h3, Int.shiftRight_eq_div_pow]
  have h4 : (wi X).toBitVec.toInt = X := wi_toInt h1 h2
  rw [h4]
theorem wshr_k8 {X : Int} : -2147483648 ≤ X ∧ X ≤ 2147483647 → wshr X 8 = X / 256 := fun h => wshr_k (k := 8) (by decide) h.1 h.2
theorem wshr_k4 {X : Int} : -2147483648 ≤ X ∧ X ≤ 2147483647 → wshr X 4 = X / 16 := fun h => wshr_k (k := 4) (by decide) h.1 h.2
theorem wuI_self {m : wm} {k i j : Nat} {X : Int} : (wuI m k i j X).1 k i j = X := by
  show (if k = k ∧ i = i ∧ j = j then X else m.1 k i j) = X
  rw [if_pos ⟨rfl, rfl, rfl⟩]
theorem wuI_nj {m : wm} {k i j k' i' j' : Nat} {X : Int} (h : ¬ (k' = k ∧ i' = i ∧ j' = j)) : (wuI m k i j X).1 k' i' j' = m.1 k' i' j' := by
  show (if k' = k ∧ i' = i ∧ j' = j then X else m.1 k' i' j') = _
  rw [if_neg h]
theorem wtdiv_neg {X Y : Int} (h : X < 0) : X.tdiv Y = -((-X) / Y) := by
  rw [← Int.tdiv_eq_ediv_of_nonneg (a := -X) (by omega), Int.neg_tdiv, Int.neg_neg]
theorem wtmod_neg {X Y : Int} (h : X < 0) : X.tmod Y = -((-X) % Y) := by
  rw [← Int.tmod_eq_emod_of_nonneg (a := -X) (by omega), Int.neg_tmod, Int.neg_neg]
theorem wshl1_rg {n : Int} (h : 0 ≤ n ∧ n ≤ 30) : 1 ≤ wshl 1 n := by
  rcases (show n = 0 ∨ n = 1 ∨ n = 2 ∨ n = 3 ∨ n = 4 ∨ n = 5 ∨ n = 6 ∨ n = 7 ∨ n = 8 ∨ n = 9 ∨ n = 10 ∨ n = 11 ∨ n = 12 ∨ n = 13 ∨ n = 14 ∨ n = 15 ∨ n = 16 ∨ n = 17 ∨ n = 18 ∨ n = 19 ∨ n = 20 ∨ n = 21 ∨ n = 22 ∨ n = 23 ∨ n = 24 ∨ n = 25 ∨ n = 26 ∨ n = 27 ∨ n = 28 ∨ n = 29 ∨ n = 30 by omega) with rfl | rfl | rfl | rfl | rfl | rfl | rfl | rfl | rfl | rfl | rfl | rfl | rfl | rfl | rfl | rfl | rfl | rfl | rfl | rfl | rfl | rfl | rfl | rfl | rfl | rfl | rfl | rfl | rfl | rfl | rfl <;> decide +kernel
theorem zlim_le (t : Nat) : 6 ≤ zlim t ∧ zlim t ≤ 104 := by
  unfold zlim
  by_cases h0 : t = 0
  · rw [if_pos h0]; omega
  rw [if_neg h0]
  by_cases h1 : t = 1
  · rw [if_pos h1]; omega
  rw [if_neg h1]
  by_cases h2 : t = 2
  · rw [if_pos h2]; omega
  rw [if_neg h2]
  by_cases h3 : t < 35
  · rw [if_pos h3]; omega
  rw [if_neg h3]
  by_cases h4 : t < 47
  · rw [if_pos h4]; omega
  rw [if_neg h4]
  by_cases h5 : t < 59
  · rw [if_pos h5]; omega
  rw [if_neg h5]; omega
theorem wtmod_rg {X Y : Int} (h : 0 ≤ X ∧ 0 < Y) : 0 ≤ X.tmod Y ∧ X.tmod Y < Y := by
  rw [Int.tmod_eq_emod_of_nonneg h.1]
  exact ⟨Int.emod_nonneg _ (by omega), Int.emod_lt_of_pos _ h.2⟩
theorem zBr_w7 {m : wm} {f j x : Nat} (h : zBr m) (hx : 35 + 6 * f ≤ x ∧ x < 41 + 6 * f) : zBr (wuR m 7 f j x) := fun f' j' h1 h2 => by
  obtain ⟨a1, a2, a3, a4⟩ := h f' j' h1 h2
  refine ⟨?_, ?_, a3, a4⟩
  · show 35 + 6 * f' ≤ if 7 = 7 ∧ f' = f ∧ j' = j then x else m.2.2 7 f' j'
    by_cases z : 7 = 7 ∧ f' = f ∧ j' = j
    · rw [if_pos z]; omega
    · rw [if_neg z]; exact a1
  · show (if 7 = 7 ∧ f' = f ∧ j' = j then x else m.2.2 7 f' j') < 41 + 6 * f'
    by_cases z : 7 = 7 ∧ f' = f ∧ j' = j
    · rw [if_pos z]; omega
    · rw [if_neg z]; exact a2
theorem zBr_w8 {m : wm} {f j x : Nat} (h : zBr m) (hx : 47 + 6 * f ≤ x ∧ x < 53 + 6 * f) : zBr (wuR m 8 f j x) := fun f' j' h1 h2 => by
  obtain ⟨a1, a2, a3, a4⟩ := h f' j' h1 h2
  refine ⟨a1, a2, ?_, ?_⟩
  · show 47 + 6 * f' ≤ if 8 = 8 ∧ f' = f ∧ j' = j then x else m.2.2 8 f' j'
    by_cases z : 8 = 8 ∧ f' = f ∧ j' = j
    · rw [if_pos z]; omega
    · rw [if_neg z]; exact a3
  · show (if 8 = 8 ∧ f' = f ∧ j' = j then x else m.2.2 8 f' j') < 53 + 6 * f'
    by_cases z : 8 = 8 ∧ f' = f ∧ j' = j
    · rw [if_pos z]; omega
    · rw [if_neg z]; exact a4
theorem wxor_2147483647 {X Y : Int} (hX : 0 ≤ X ∧ X ≤ 2147483647) (hY : 0 ≤ Y ∧ Y ≤ 2147483647) : 0 ≤ wxor X Y ∧ wxor X Y ≤ 2147483647 := by
  have eX : (wi X).toBitVec.toNat = X.toNat := by show (BitVec.ofInt 32 X).toNat = _; rw [BitVec.toNat_ofInt]; omega
  have eY : (wi Y).toBitVec.toNat = Y.toNat := by show (BitVec.ofInt 32 Y).toNat = _; rw [BitVec.toNat_ofInt]; omega
  have e : ((wi X).toBitVec ^^^ (wi Y).toBitVec).toNat < 2 ^ 31 := by
    rw [BitVec.toNat_xor, eX, eY]
    exact Nat.xor_lt_two_pow (by omega) (by omega)
  show 0 ≤ ((wi X).toBitVec ^^^ (wi Y).toBitVec).toInt ∧ ((wi X).toBitVec ^^^ (wi Y).toBitVec).toInt ≤ 2147483647
  rw [BitVec.toInt_eq_toNat_of_lt (by omega)]
  omega
theorem wshl_l {X : Int} {k : Nat} (hk : k < 32) (h1 : 0 ≤ X) (h2 : X * (2 ^ k : Nat) ≤ 2147483647) : wshl X k = X * (2 ^ k : Nat) := by
  unfold wshl
  have e : (wi k &&& 31) = wi k := by
    rcases (show k = 0 ∨ k = 1 ∨ k = 2 ∨ k = 3 ∨ k = 4 ∨ k = 5 ∨ k = 6 ∨ k = 7 ∨ k = 8 ∨ k = 9 ∨ k = 10 ∨ k = 11 ∨ k = 12 ∨ k = 13 ∨ k = 14 ∨ k = 15 ∨ k = 16 ∨ k = 17 ∨ k = 18 ∨ k = 19 ∨ k = 20 ∨ k = 21 ∨ k = 22 ∨ k = 23 ∨ k = 24 ∨ k = 25 ∨ k = 26 ∨ k = 27 ∨ k = 28 ∨ k = 29 ∨ k = 30 ∨ k = 31 by omega) with rfl | rfl | rfl | rfl | rfl | rfl | rfl | rfl | rfl | rfl | rfl | rfl | rfl | rfl | rfl | rfl | rfl | rfl | rfl | rfl | rfl | rfl | rfl | rfl | rfl | rfl | rfl | rfl | rfl | rfl | rfl | rfl <;> decide +kernel
  rw [e]
  have e2 : (wi k).toBitVec.smod 32 = BitVec.ofNat 32 k := by
    rcases (show k = 0 ∨ k = 1 ∨ k = 2 ∨ k = 3 ∨ k = 4 ∨ k = 5 ∨ k = 6 ∨ k = 7 ∨ k = 8 ∨ k = 9 ∨ k = 10 ∨ k = 11 ∨ k = 12 ∨ k = 13 ∨ k = 14 ∨ k = 15 ∨ k = 16 ∨ k = 17 ∨ k = 18 ∨ k = 19 ∨ k = 20 ∨ k = 21 ∨ k = 22 ∨ k = 23 ∨ k = 24 ∨ k = 25 ∨ k = 26 ∨ k = 27 ∨ k = 28 ∨ k = 29 ∨ k = 30 ∨ k = 31 by omega) with rfl | rfl | rfl | rfl | rfl | rfl | rfl | rfl | rfl | rfl | rfl | rfl | rfl | rfl | rfl | rfl | rfl | rfl | rfl | rfl | rfl | rfl | rfl | rfl | rfl | rfl | rfl | rfl | rfl | rfl | rfl | rfl <;> decide +kernel
  show ((wi X).toBitVec <<< ((wi k).toBitVec.smod 32)).toInt = _
  rw [e2]
  have h3 : (BitVec.ofNat 32 k).toNat = k := by rw [BitVec.toNat_ofNat]; omega
  have hX : X ≤ 2147483647 := by
    have : (1 : Int) ≤ (2 ^ k : Nat) := Int.ofNat_le.mpr Nat.one_le_two_pow
    have := Int.mul_le_mul_of_nonneg_left this h1
    omega
  have eX : (wi X).toBitVec.toNat = X.toNat := by show (BitVec.ofInt 32 X).toNat = _; rw [BitVec.toNat_ofInt]; omega
  obtain ⟨x, rfl⟩ := Int.eq_ofNat_of_zero_le h1
  have h2 : x * 2 ^ k ≤ 2147483647 := by
    have h9 : ((x * 2 ^ k : Nat) : Int) ≤ 2147483647 := by rw [Int.natCast_mul]; exact h2
    generalize x * 2 ^ k = y at h9
    omega
  have e3 : ((wi (x : Int)).toBitVec <<< BitVec.ofNat 32 k).toNat = x * 2 ^ k := by
    show ((wi (x : Int)).toBitVec <<< (BitVec.ofNat 32 k).toNat).toNat = _
    rw [h3, BitVec.toNat_shiftLeft, eX, Nat.shiftLeft_eq]
    show x * 2 ^ k % 2 ^ 32 = _
    exact Nat.mod_eq_of_lt (by omega)
  rw [BitVec.toInt_eq_toNat_of_lt (by rw [e3]; omega), e3]
  exact Int.natCast_mul _ _
theorem wshl_k1 {X : Int} : 0 ≤ X ∧ X ≤ 1000000000 → wshl X 1 = 2 * X := fun h => by
  have := wshl_l (X := X) (k := 1) (by decide) h.1 (by show X * 2 ≤ _; omega)
  have : wshl X 1 = X * 2 := this
  omega
theorem wshl_k4 {X : Int} : 0 ≤ X ∧ X ≤ 100000000 → wshl X 4 = 16 * X := fun h => by
  have := wshl_l (X := X) (k := 4) (by decide) h.1 (by show X * 16 ≤ _; omega)
  have : wshl X 4 = X * 16 := this
  omega
theorem wor_131071 {X Y : Int} (hX : 0 ≤ X ∧ X ≤ 131071) (hY : 0 ≤ Y ∧ Y ≤ 131071) : 0 ≤ wor X Y ∧ wor X Y ≤ 131071 := by
  have eX : (wi X).toBitVec.toNat = X.toNat := by show (BitVec.ofInt 32 X).toNat = _; rw [BitVec.toNat_ofInt]; omega
  have eY : (wi Y).toBitVec.toNat = Y.toNat := by show (BitVec.ofInt 32 Y).toNat = _; rw [BitVec.toNat_ofInt]; omega
  have e : ((wi X).toBitVec ||| (wi Y).toBitVec).toNat < 2 ^ 17 := by
    rw [BitVec.toNat_or, eX, eY]
    exact Nat.or_lt_two_pow (by omega) (by omega)
  show 0 ≤ ((wi X).toBitVec ||| (wi Y).toBitVec).toInt ∧ ((wi X).toBitVec ||| (wi Y).toBitVec).toInt ≤ 131071
  rw [BitVec.toInt_eq_toNat_of_lt (by omega)]
  omega
/-- a byte of a row, 0 behind its end -/
def zBat (m : wm) (t : Nat) (x : Int) : Int := if 0 ≤ x ∧ x < m.1 1 t 1 then m.1 2 t x.toNat else 0
theorem zBat_in {m : wm} {t : Nat} {x : Int} (h1 : 0 ≤ x) (h2 : x < m.1 1 t 1) : m.1 2 t x.toNat = zBat m t x := by unfold zBat; rw [if_pos ⟨h1, h2⟩]
theorem zBat_out {m : wm} {t : Nat} {x : Int} (h : x < 0 ∨ m.1 1 t 1 ≤ x) : 0 = zBat m t x := by unfold zBat; rw [if_neg (by omega)]
theorem zBat_fr {e : Nat → Nat → Nat → Prop} {m m' : wm} {t : Nat} (x : Int) (h : zfr e m m') (h1 : ¬ e 1 t 1) (h2 : ∀ j, ¬ e 2 t j) : zBat m' t x = zBat m t x := by
  unfold zBat
  rw [(h 1 t 1 h1).1, (h 2 t x.toNat (h2 _)).1]
theorem znum_s {x : Int64} {b : Int} (h : 0 ≤ x.toInt ∧ x.toInt < 1099511627776) (hb : 0 ≤ b ∧ b ≤ 255) : ((x <<< (wi2l 8 &&& 63)) ||| wi2l b).toInt = 256 * x.toInt + b := by
  have e8 : (wi2l 8 &&& 63) = 8 := by decide +kernel
  rw [e8]
  have hb1 : (wi2l b).toBitVec.toNat = b.toNat := by
    have e : (wi2l b).toInt = b := by unfold wi2l; rw [Int32.toInt_toInt64, wi_toInt (by omega) (by omega)]
    have e : (wi2l b).toBitVec.toInt = b := e
    have h9 := BitVec.toInt_eq_toNat_cond (wi2l b).toBitVec
    rw [e] at h9
    split at h9
    · omega
    · have := (wi2l b).toBitVec.isLt; omega
  have hx1 : (x.toBitVec.toNat : Int) = x.toInt := by
    have e : x.toBitVec.toInt = x.toInt := rfl
    have h9 := BitVec.toInt_eq_toNat_cond x.toBitVec
    rw [e] at h9
    split at h9
    · omega
    · have := x.toBitVec.isLt; omega
  have hs : (x <<< (8 : Int64)).toBitVec.toNat = x.toBitVec.toNat * 256 := by
    show (x.toBitVec <<< ((8 : Int64).toBitVec.smod 64)).toNat = _
    have e9 : (8 : Int64).toBitVec.smod 64 = BitVec.ofNat 64 8 := by decide +kernel
    rw [e9]
    show (x.toBitVec <<< (BitVec.ofNat 64 8).toNat).toNat = _
    rw [show (BitVec.ofNat 64 8).toNat = 8 from rfl, BitVec.toNat_shiftLeft, Nat.shiftLeft_eq]
    show x.toBitVec.toNat * 256 % 2 ^ 64 = _
    exact Nat.mod_eq_of_lt (by omega)
  have ht : ((x <<< (8 : Int64)) ||| wi2l b).toBitVec.toNat = x.toBitVec.toNat * 256 + b.toNat := by
    show ((x <<< (8 : Int64)).toBitVec ||| (wi2l b).toBitVec).toNat = _
    rw [BitVec.toNat_or, hs, hb1]
    have := Nat.shiftLeft_add_eq_or_of_lt (b := b.toNat) (i := 8) (by omega) x.toBitVec.toNat
    rw [Nat.shiftLeft_eq] at this
    exact this.symm
  show ((x <<< (8 : Int64)) ||| wi2l b).toBitVec.toInt = _
  rw [BitVec.toInt_eq_toNat_of_lt (by rw [ht]; omega), ht]
  omega
theorem wl2i_small {x : Int64} (h : 0 ≤ x.toInt ∧ x.toInt ≤ 2147483647) : wl2i x = x.toInt := by
  unfold wl2i
  rw [Int64.toInt_toInt32, Int.bmod_eq_of_le (by omega) (by omega)]
theorem zBat_rg {c : Int} {m : wm} (h : zB c m) (t : Nat) (x : Int) : 0 ≤ zBat m t x ∧ zBat m t x ≤ 255 := by
  unfold zBat
  by_cases z : 0 ≤ x ∧ x < m.1 1 t 1
  · rw [if_pos z]; exact h.1 2 _ rfl _ _
  · rw [if_neg z]; omega
theorem ww_lk {K : wK} {M : xM} {pc : Nat} {L : wL} {r : List wv} {n : Nat × Nat} {m : wm} {Q : wQ} {d : Int} {ps : Array (Int × Int)} {len : Nat} {p : xP} {X : Int} {t : Nat} (hat : (xcd M)[pc]? = some (some (.lookupswitch d ps, len, p))) (hX : -2147483648 ≤ X ∧ X ≤ 2147483647) (hs : (ps.toList.zip (ps.toList.drop 1)).all (fun (a, next) => a.1 < next.1) = true) (ht : xtg pc (Op.lookupswitch.offset ps.toList d X) = some t) (k : wW K M t L r n m Q) : wW K M pc L (.inl X :: r) n m Q := by
  intro S hV
  have eX := wi_toInt hX.1 hX.2
  have e : xst K.2.1 K.1.1 K.1.2.1 K.1.2.2.1 (xmx M) (.lookupswitch d ps, len, p) pc (wcl K L) ((.inl X :: r : List wv).map (wcv K)) S = some (t, wcl K L, r.map (wcv K), S) := by
    show (if (ps.toList.zip (ps.toList.drop 1)).all (fun (a, next) => a.1 < next.1) = true then (xtg pc (Op.lookupswitch.offset ps.toList d (wi X).toInt)).map fun t => (t, r.map (wcv K)) else none).map _ = _
    rw [if_pos hs, eX, ht]
    rfl
  obtain ⟨o, S', h1, h2⟩ := k S hV
  exact ⟨o, S', xn_step hat rfl rfl (xcal_ni rfl) rfl e h1, h2⟩
