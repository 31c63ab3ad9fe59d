/-! Rows as lists of bytes; numbers, hashes, sums. -/
def zLs (l : List Int) : zRc := zcut (l.length : Int) (fun k => l.getD k 0)
theorem zLs_1 {l : List Int} : (zLs l).1 = (l.length : Int) := rfl
theorem zLs_2 {l : List Int} {k : Nat} : (zLs l).2 k = l.getD k 0 := by
  by_cases h : (k : Int) < (l.length : Int)
  · exact zcut_2 h
  · rw [show (zLs l).2 k = 0 from zcut_o (by omega), List.getD_eq_getElem?_getD, List.getElem?_eq_none (by omega)]
    rfl
def zbl (v : Int64) (y : Nat) : List Int := (List.range y).map fun u : Nat => zb8 v (8 * ((y : Int) - 1 - (u : Int)))
theorem zbl_len {v : Int64} {y : Nat} : (zbl v y).length = y := by unfold zbl; rw [List.length_map, List.length_range]
theorem zbl_at {v : Int64} {y u : Nat} (h : u < y) : (zbl v y).getD u 0 = zb8 v (8 * ((y : Int) - 1 - (u : Int))) := by
  unfold zbl
  rw [List.getD_eq_getElem?_getD, List.getElem?_map, List.getElem?_range h]
  rfl
theorem zgetD_l {l l' : List Int} {k : Nat} (h : k < l.length) : (l ++ l').getD k 0 = l.getD k 0 := by
  rw [List.getD_eq_getElem?_getD, List.getD_eq_getElem?_getD, List.getElem?_append_left h]
theorem zgetD_r {l l' : List Int} {k : Nat} : (l ++ l').getD (l.length + k) 0 = l'.getD k 0 := by
  rw [List.getD_eq_getElem?_getD, List.getD_eq_getElem?_getD, List.getElem?_append_right (by omega), show l.length + k - l.length = k by omega]
/-- appended to a row -/
theorem zLs_ap {m m1 : wm} {R : Nat} {l : List Int} {y : Int} {v : Int64} (h : zBR m R = zLs l) (ha : zApd (m1.1 2 R) (m.1 2 R) (m.1 1 R 1) y v) (hs : m1.1 1 R 1 = m.1 1 R 1 + y) (hy : 0 ≤ y) : zBR m1 R = zLs (l ++ zbl v y.toNat) := by
  have hl : m.1 1 R 1 = (l.length : Int) := congrArg Prod.fst h
  unfold zBR zLs
  refine zcut_eq (by rw [hs, hl, List.length_append, zbl_len]; omega) fun k hk => ?_
  by_cases hk2 : k < l.length
  · rw [ha.1 k (by omega), zgetD_l hk2]
    have h3 := congrFun (congrArg Prod.snd h) k
    rw [show (zBR m R).2 k = m.1 2 R k from zcut_2 (by omega), zLs_2] at h3
    exact h3
  · have e : k = l.length + (k - l.length) := by omega
    have h4 := ha.2 (k - l.length) (by omega)
    rw [show (m.1 1 R 1).toNat + (k - l.length) = k by omega] at h4
    rw [h4, e, zgetD_r, zbl_at (by omega), show l.length + (k - l.length) - l.length = k - l.length by omega, Int.toNat_of_nonneg hy]
/-- numbers out of bytes -/
def zen (g : Nat → Int) : Nat → Int64
  | 0 => Int64.ofNat 0
  | n + 1 => (zen g n <<< (wi2l 8 &&& 63)) ||| wi2l (g n)
theorem zen_c {g g' : Nat → Int} : ∀ {n : Nat}, (∀ k, k < n → g k = g' k) → zen g n = zen g' n := by
  intro n
  induction n with
  | zero => intro _; rfl
  | succ n ih =>
    intro h
    show (zen g n <<< (wi2l 8 &&& 63)) ||| wi2l (g n) = (zen g' n <<< (wi2l 8 &&& 63)) ||| wi2l (g' n)
    rw [ih (fun k hk => h k (Nat.lt_succ_of_lt hk)), h n (Nat.lt_succ_self n)]
/-- hashes -/
def zhh (g : Nat → Int) : Nat → Int64
  | 0 => Int64.ofInt (-3750763034362895579)
  | n + 1 => (zhh g n ^^^ wi2l (g n)) * Int64.ofInt 1099511628211
theorem zhh_c {g g' : Nat → Int} : ∀ {n : Nat}, (∀ k, k < n → g k = g' k) → zhh g n = zhh g' n := by
  intro n
  induction n with
  | zero => intro _; rfl
  | succ n ih =>
    intro h
    show (zhh g n ^^^ wi2l (g n)) * Int64.ofInt 1099511628211 = (zhh g' n ^^^ wi2l (g' n)) * Int64.ofInt 1099511628211
    rw [ih (fun k hk => h k (Nat.lt_succ_of_lt hk)), h n (Nat.lt_succ_self n)]
/-- sums of pieces -/
def zsm (g : Nat → Int) (M b : Int) : Nat → Int64
  | 0 => Int64.ofNat 0
  | k + 1 => if wand (wshr M (k : Int)) 1 = 1 then zsm g M b k ^^^ zen (fun u => g ((64 * b + 8 * (k : Int)).toNat + u)) 8 else zsm g M b k
/-- which pieces -/
def zmk (v i b j n : Int) : Int := if j < n then wshl 1 j else if wand (wushr (40503 * (j + 1) * (j + 7) + 9973 * (b + 1) + 977 * i + 31 * v) 8) (wshl 1 n - 1) = 0 then wshl 1 n - 1 else wand (wushr (40503 * (j + 1) * (j + 7) + 9973 * (b + 1) + 977 * i + 31 * v) 8) (wshl 1 n - 1)
/-- small numbers -/
theorem wi2l_toInt {X : Int} (h : -2147483648 ≤ X) (h1 : X ≤ 2147483647) : (wi2l X).toInt = X := by
  unfold wi2l wi
  rw [Int32.toInt_toInt64, Int32.toInt_ofInt, Int32.size]
  exact Int.bmod_eq_of_le (by omega) (by omega)
theorem zb8_n {v : Int64} {k : Nat} (hk : k ≤ 7) (h : 0 ≤ v.toInt) : zb8 v ((8 * k : Nat) : Int) = v.toInt / ((2 ^ (8 * k) : Nat) : Int) % 256 := by
  have e2 : (v >>> (wi2l (8 * k : Nat) &&& 63)).toBitVec = v.toBitVec.sshiftRight (8 * k) := by
    show v.toBitVec.sshiftRight' ((wi2l (8 * k : Nat) &&& 63).toBitVec.smod 64) = _
    rcases (show k = 0 ∨ k = 1 ∨ k = 2 ∨ k = 3 ∨ k = 4 ∨ k = 5 ∨ k = 6 ∨ k = 7 by omega) with rfl | rfl | rfl | rfl | rfl | rfl | rfl | rfl <;> rfl
  have e3 : ((v >>> (wi2l (8 * k : Nat) &&& 63)) &&& Int64.ofInt 255).toBitVec.toNat = (v.toBitVec.sshiftRight (8 * k)).toNat % 256 := by
    show ((v >>> (wi2l (8 * k : Nat) &&& 63)).toBitVec &&& (Int64.ofInt 255).toBitVec).toNat = _
    rw [e2, BitVec.toNat_and]
    show _ &&& 2 ^ 8 - 1 = _
    rw [Nat.and_two_pow_sub_one_eq_mod]
  have e5 : (v.toBitVec.sshiftRight (8 * k)).toInt = v.toInt / ((2 ^ (8 * k) : Nat) : Int) := by
    rw [BitVec.toInt_sshiftRight, Int.shiftRight_eq_div_pow]
    rfl
  have h6 : 0 ≤ v.toInt / ((2 ^ (8 * k) : Nat) : Int) := Int.ediv_nonneg h (Int.natCast_nonneg _)
  have e6 : ((v.toBitVec.sshiftRight (8 * k)).toNat : Int) = v.toInt / ((2 ^ (8 * k) : Nat) : Int) := by
    rw [← e5]
    rw [← e5] at h6
    have hm : (v.toBitVec.sshiftRight (8 * k)).msb = false := by
      cases hb : (v.toBitVec.sshiftRight (8 * k)).msb with
      | false => rfl
      | true =>
        have := BitVec.toInt_neg_of_msb_true hb
        omega
    rw [BitVec.toInt_eq_toNat_of_msb hm]
  have e4 : ((v >>> (wi2l (8 * k : Nat) &&& 63)) &&& Int64.ofInt 255).toInt = (((v.toBitVec.sshiftRight (8 * k)).toNat % 256 : Nat) : Int) := by
    show ((v >>> (wi2l (8 * k : Nat) &&& 63)) &&& Int64.ofInt 255).toBitVec.toInt = _
    rw [BitVec.toInt_eq_toNat_of_lt (by rw [e3]; omega), e3]
  unfold zb8 wl2i
  rw [Int64.toInt_toInt32, e4, Int.bmod_eq_of_le (by omega) (by omega), Int.natCast_emod, e6]
  rfl
theorem zb8_w0 {X : Int} (h : 0 ≤ X) (h1 : X ≤ 2147483647) : zb8 (wi2l X) 0 = X % 256 := by
  have e := wi2l_toInt (X := X) (by omega) h1
  have := zb8_n (v := wi2l X) (k := 0) (by decide) (by rw [e]; exact h)
  rw [e] at this
  rw [show X / ((2 ^ (8 * 0) : Nat) : Int) = X from Int.ediv_one X] at this
  exact this
theorem zb8_w8 {X : Int} (h : 0 ≤ X) (h1 : X ≤ 65535) : zb8 (wi2l X) 8 = X / 256 := by
  have e := wi2l_toInt (X := X) (by omega) (by omega)
  have := zb8_n (v := wi2l X) (k := 1) (by decide) (by rw [e]; exact h)
  rw [e] at this
  have h2 : zb8 (wi2l X) 8 = X / 256 % 256 := this
  rw [h2]
  omega
theorem zLs_0 {m : wm} {R : Nat} (h : m.1 1 R 1 = 0) : zBR m R = zLs [] := zcut_eq h fun k hk => absurd hk (by omega)
theorem zbl_1 {v : Int64} : zbl v 1 = [zb8 v 0] := rfl
theorem zbl_w {X : Int} (h : 0 ≤ X) (h1 : X ≤ 255) : zbl (wi2l X) 1 = [X] := by
  rw [zbl_1, zb8_w0 h (by omega)]
  congr 1
  omega
theorem zbl_2 {X : Int} (h : 0 ≤ X) (h1 : X ≤ 65535) : zbl (wi2l X) 2 = [X / 256, X % 256] := by
  show [zb8 (wi2l X) 8, zb8 (wi2l X) 0] = _
  rw [zb8_w8 h h1, zb8_w0 h (by omega)]
def zbs (a : zRc) : List Int := (List.range a.1.toNat).map a.2
theorem zbs_len {a : zRc} : (zbs a).length = a.1.toNat := by unfold zbs; rw [List.length_map, List.length_range]
theorem zrng_s {g : Nat → Int} {u : Int} (hu : 0 ≤ u) : (List.range (u + 1).toNat).map g = (List.range u.toNat).map g ++ [g u.toNat] := by
  rw [show (u + 1).toNat = u.toNat + 1 by omega, List.range_succ, List.map_append]
  rfl
theorem zLs_aa {m m1 : wm} {R : Nat} {l : List Int} {g : Nat → Int} {X u : Int} (h : zBR m R = zLs (l ++ (List.range u.toNat).map g)) (ha : zApd (m1.1 2 R) (m.1 2 R) (m.1 1 R 1) 1 (wi2l X)) (hs : m1.1 1 R 1 = m.1 1 R 1 + 1) (hX : X = g u.toNat) (h0 : 0 ≤ X) (h1 : X ≤ 255) (hu : 0 ≤ u) : zBR m1 R = zLs (l ++ (List.range (u + 1).toNat).map g) := by
  have h2 := zLs_ap h ha hs (by decide)
  rw [h2, zrng_s hu, ← List.append_assoc, show zbl (wi2l X) (1 : Int).toNat = [X] from zbl_w h0 h1, hX]
/-- a manifest -/
def zML (v n : Int) (F : Nat → zRc × zRc) : Nat → List Int
  | 0 => [v / 256, v % 256, n]
  | k + 1 => (((zML v n F k ++ [(F k).1.1]) ++ zbs (F k).1) ++ [(F k).2.1]) ++ zbl (zhh (F k).2.2 (F k).2.1.toNat) 8
theorem zML_c {v n : Int} {F G : Nat → zRc × zRc} : ∀ {k : Nat}, (∀ i, i < k → F i = G i) → zML v n F k = zML v n G k := by
  intro k
  induction k with
  | zero => intro _; rfl
  | succ k ih =>
    intro h
    show (((zML v n F k ++ [(F k).1.1]) ++ zbs (F k).1) ++ [(F k).2.1]) ++ zbl (zhh (F k).2.2 (F k).2.1.toNat) 8 = _
    rw [ih (fun i hi => h i (Nat.lt_succ_of_lt hi)), h k (Nat.lt_succ_self k)]
    rfl
theorem zML_s {v n : Int} {F : Nat → zRc × zRc} {k : Nat} {a c : Int} {b : zRc} {h : Int64} (ha : a = (F k).1.1) (hb : b = (F k).1) (hc : c = (F k).2.1) (hh : h = zhh (F k).2.2 (F k).2.1.toNat) (a0 : 0 ≤ a ∧ a ≤ 255) (c0 : 0 ≤ c ∧ c ≤ 255) : (((zML v n F k ++ zbl (wi2l a) (1 : Int).toNat) ++ zbs b) ++ zbl (wi2l c) (1 : Int).toNat) ++ zbl h (8 : Int).toNat = zML v n F (k + 1) := by
  rw [show zbl (wi2l a) (1 : Int).toNat = [a] from zbl_w a0.1 a0.2, show zbl (wi2l c) (1 : Int).toNat = [c] from zbl_w c0.1 c0.2, ha, hb, hc, hh]
  rfl
def zpc (s b : Int) : Int := max 1 ((min 64 (s - 64 * b) + 7) / 8)
theorem zpc_2 (s b : Int) : zpb s b = 2 * zpc s b := rfl
theorem zpc_rg (s b : Int) : 1 ≤ zpc s b ∧ zpc s b ≤ 8 := by unfold zpc; omega
def zPL (life f v i b j sz : Int) (S : Int64) : List Int := ((((((([] ++ zbl (wi2l life) 1) ++ zbl (wi2l f) 1) ++ zbl (wi2l v) 2) ++ zbl (wi2l i) 1) ++ zbl (wi2l b) 1) ++ zbl (wi2l j) 1) ++ zbl (wi2l sz) 1) ++ zbl S 8
def zPK (life f v i b j sz : Int) (S : Int64) : List Int := zPL life f v i b j sz S ++ zbl (zhh (fun k => (zPL life f v i b j sz S).getD k 0) 16) 8
theorem zPL_len {life f v i b j sz : Int} {S : Int64} : (zPL life f v i b j sz S).length = 16 := by
  unfold zPL
  simp only [List.length_append, zbl_len, List.length_nil]
theorem zPK_len {life f v i b j sz : Int} {S : Int64} : (zPK life f v i b j sz S).length = 24 := by
  unfold zPK
  rw [List.length_append, zPL_len, zbl_len]
theorem zsm_s {g : Nat → Int} {M b k : Int} {w : Int64} (hk : 0 ≤ k) (hw : w = zsm g M b k.toNat) {X : Int64} (hX : wand (wshr M k) 1 = 1 → X = w ^^^ zen (fun u => g ((64 * b + 8 * k).toNat + u)) 8) (hY : wand (wshr M k) 1 ≠ 1 → X = w) : X = zsm g M b (k + 1).toNat := by
  rw [show (k + 1).toNat = k.toNat + 1 by omega]
  show X = if wand (wshr M ((k.toNat : Nat) : Int)) 1 = 1 then zsm g M b k.toNat ^^^ zen (fun u => g ((64 * b + 8 * ((k.toNat : Nat) : Int)).toNat + u)) 8 else zsm g M b k.toNat
  rw [Int.toNat_of_nonneg hk, ← hw]
  by_cases h : wand (wshr M k) 1 = 1
  · rw [if_pos h]; exact hX h
  · rw [if_neg h]; exact hY h
/-- where a packet lies in a version of so many items of these sizes -/
def zLo (g : Nat → Int) (n x a b j : Int) : Prop := 0 ≤ a ∧ a < n ∧ (b = 0 ∨ b = 1 ∧ 64 < g a.toNat) ∧ 0 ≤ j ∧ j < zpb (g a.toNat) b ∧ x = zTq g a.toNat + zTi (g a.toNat) b + j
theorem zLo_u {g g' : Nat → Int} {n x a b j a' b' j' : Int} (hg : ∀ i : Nat, (i : Int) < n → g i = g' i) (h : zLo g n x a b j) (h' : zLo g' n x a' b' j') : a = a' ∧ b = b' ∧ j = j' := by
  obtain ⟨h1, h2, h3, h4, h5, h6⟩ := h
  obtain ⟨g1, g2, g3, g4, g5, g6⟩ := h'
  have eT : ∀ i : Nat, (i : Int) ≤ n → zTq g i = zTq g' i := fun i hi => zTq_congr fun q hq => hg q (by omega)
  rw [← hg a'.toNat (by omega)] at g3 g5 g6
  rw [← eT a'.toNat (by omega)] at g6
  have L1 := zTi_le (g a.toNat) b (by omega)
  have L2 := zTi_le (g a'.toNat) b' (by omega)
  have n1 : 0 ≤ zTi (g a.toNat) b := by
    rcases h3 with rfl | ⟨rfl, _⟩
    · exact Int.le_refl _
    · have := zTi_s (g a.toNat) 0 (by decide) (by decide)
      rw [show (0 : Int) + 1 = 1 from rfl, zTi_0] at this
      rw [this]; unfold zpb; omega
  have n2 : 0 ≤ zTi (g a'.toNat) b' := by
    rcases g3 with rfl | ⟨rfl, _⟩
    · exact Int.le_refl _
    · have := zTi_s (g a'.toNat) 0 (by decide) (by decide)
      rw [show (0 : Int) + 1 = 1 from rfl, zTi_0] at this
      rw [this]; unfold zpb; omega
  have s1 := zTq_s (g := g) h1
  have s2 := zTq_s (g := g) g1
  have ea : a = a' := by
    rcases Int.lt_trichotomy a a' with hl | hl | hl
    · have := zTq_mono g (a := (a + 1).toNat) (b := a'.toNat) (by omega)
      omega
    · exact hl
    · have := zTq_mono g (a := (a' + 1).toNat) (b := a.toNat) (by omega)
      omega
  subst ea
  have t1 := zTi_s (g a.toNat) 0 (by decide) (by decide)
  rw [show (0 : Int) + 1 = 1 from rfl, zTi_0] at t1
  have eb : b = b' := by
    rcases h3 with rfl | ⟨rfl, _⟩
    · rcases g3 with rfl | ⟨rfl, _⟩
      · rfl
      · rw [zTi_0] at h6; omega
    · rcases g3 with rfl | ⟨rfl, _⟩
      · rw [zTi_0] at g6; omega
      · rfl
  subst eb
  exact ⟨rfl, rfl, by omega⟩
theorem zlim_e {R : Nat} (h : 59 ≤ R) (h1 : R < 171) : zlim R = 104 := by
  unfold zlim
  rw [if_neg (by omega), if_neg (by omega), if_neg (by omega), if_neg (by omega), if_neg (by omega), if_neg (by omega)]
