/-! The rows of both sides: as they are kept, dropped, told, added. -/
theorem wxor_n {X Y : Int} (hX : 0 ≤ X ∧ X ≤ 255) (hY : 0 ≤ Y ∧ Y ≤ 255) : (wxor X Y).toNat = X.toNat ^^^ Y.toNat := by
  have eX : (wi X).toBitVec.toNat = X.toNat := by show (BitVec.ofInt 32 X).toNat = _; rw [BitVec.toNat_ofInt]; omega
  have eY : (wi Y).toBitVec.toNat = Y.toNat := by show (BitVec.ofInt 32 Y).toNat = _; rw [BitVec.toNat_ofInt]; omega
  have e : ((wi X).toBitVec ^^^ (wi Y).toBitVec).toNat < 2 ^ 8 := by
    rw [BitVec.toNat_xor, eX, eY]
    exact Nat.xor_lt_two_pow (by omega) (by omega)
  show (((wi X).toBitVec ^^^ (wi Y).toBitVec).toInt).toNat = _
  rw [BitVec.toInt_eq_toNat_of_lt (by omega), BitVec.toNat_xor, eX, eY]
  exact Int.toNat_natCast _
theorem zpv1 : ∀ M : Fin 256, (decide (M.1 = 0) || (List.range 8).any fun p => decide (wand (M.1 : Int) (-(M.1 : Int)) = ((2 ^ p : Nat) : Int)) && M.1.testBit p && (List.range p).all (fun q => !M.1.testBit q)) = true := by decide +kernel
theorem zpv2 : ∀ p : Fin 8, ∀ X : Fin 256, (decide (wand ((2 ^ p.1 : Nat) : Int) (X.1 : Int) ≠ 0) == X.1.testBit p.1) = true := by decide +kernel
/-- the test for the lowest bit -/
theorem zpiv {M X : Int} {p : Nat} (hM : 1 ≤ M ∧ M ≤ 255) (hX : 0 ≤ X ∧ X ≤ 255) (hp : zlw M.toNat p) : wand (wand M (-M)) X ≠ 0 ↔ X.toNat.testBit p = true := by
  have h1 := zpv1 ⟨M.toNat, by omega⟩
  rw [Bool.or_eq_true, decide_eq_true_eq, List.any_eq_true] at h1
  rcases h1 with h1 | ⟨q, hq, h1⟩
  · exact absurd (show M.toNat = 0 from h1) (by omega)
  · rw [Bool.and_eq_true, Bool.and_eq_true, decide_eq_true_eq, List.all_eq_true] at h1
    obtain ⟨⟨a1, a2⟩, a3⟩ := h1
    have hq8 := List.mem_range.mp hq
    have hl : zlw M.toNat q := ⟨a2, fun r hr => by
      have := a3 r (List.mem_range.mpr hr)
      cases hb : M.toNat.testBit r with
      | false => rfl
      | true =>
        have h9 : (!M.toNat.testBit r) = true := this
        rw [hb] at h9
        cases h9⟩
    have e := zlw_u hp hl
    subst e
    have a1 : wand ((M.toNat : Nat) : Int) (-((M.toNat : Nat) : Int)) = ((2 ^ p : Nat) : Int) := a1
    rw [show ((M.toNat : Nat) : Int) = M by omega] at a1
    rw [a1]
    have h2 := zpv2 ⟨p, hq8⟩ ⟨X.toNat, by omega⟩
    have h2 : (decide (wand ((2 ^ p : Nat) : Int) ((X.toNat : Nat) : Int) ≠ 0) == X.toNat.testBit p) = true := h2
    rw [show ((X.toNat : Nat) : Int) = X by omega] at h2
    have h3 := eq_of_beq h2
    rw [← h3]
    exact decide_eq_true_iff.symm
/-- what is left when some go, in their order -/
theorem zct_sur {P : Nat → Bool} : ∀ {u j : Nat}, j < zct P u → ∃ i, i < u ∧ P i = true ∧ zct P i = j := by
  intro u
  induction u with
  | zero => intro j h; exact absurd h (Nat.not_lt_zero j)
  | succ u ih =>
    intro j h
    by_cases hP : P u = true
    · rw [zct_s hP] at h
      by_cases hj : j = zct P u
      · exact ⟨u, Nat.lt_succ_self u, hP, hj.symm⟩
      · obtain ⟨i, h1, h2, h3⟩ := ih (show j < zct P u by omega)
        exact ⟨i, Nat.lt_succ_of_lt h1, h2, h3⟩
    · have hP2 : P u = false := by cases h : P u with
        | false => rfl
        | true => exact absurd h hP
      rw [zct_n hP2] at h
      obtain ⟨i, h1, h2, h3⟩ := ih h
      exact ⟨i, Nat.lt_succ_of_lt h1, h2, h3⟩
theorem zct_lt {P : Nat → Bool} : ∀ {u i : Nat}, i < u → P i = true → zct P i < zct P u := by
  intro u
  induction u with
  | zero => intro i h; exact absurd h (Nat.not_lt_zero i)
  | succ u ih =>
    intro i h hP
    by_cases hi : i = u
    · subst hi
      rw [zct_s hP]
      omega
    · have h1 := ih (show i < u by omega) hP
      have h2 : zct P (u + 1) = zct P u + (if P u = true then 1 else 0) := rfl
      omega
theorem zct_ij {P : Nat → Bool} {i j : Nat} (hi : P i = true) (hj : P j = true) (h : zct P i = zct P j) : i = j := by
  rcases Nat.lt_trichotomy i j with hl | hl | hl
  · have := zct_lt hl hi; omega
  · exact hl
  · have := zct_lt hl hj; omega
section ZCMP
variable {K P P' : Nat → Bool} {R R' : Nat → zRo} {u : Nat}
theorem zsq_cmp (h : ∀ i, i < u → K i = true → R' (zct K i) = R i ∧ P' (zct K i) = P i) (hP : ∀ i, i < u → P i = true → K i = true) (p : zRo) : zsq P' R' (zct K u) p ↔ zsq P R u p := by
  constructor
  · refine fun hp => zsq_le (fun j hj hPj => ?_) hp
    obtain ⟨i, h1, h2, h3⟩ := zct_sur hj
    obtain ⟨a1, a2⟩ := h i h1 h2
    rw [← h3] at hPj ⊢
    rw [a1]
    exact zsq_m h1 (a2.symm.trans hPj)
  · refine fun hp => zsq_le (fun j hj hPj => ?_) hp
    have h2 := hP j hj hPj
    obtain ⟨a1, a2⟩ := h j hj h2
    rw [← a1]
    exact zsq_m (zct_lt hj h2) (a2.trans hPj)
theorem zct_cmp : ∀ {u : Nat}, (∀ i, i < u → K i = true → P' (zct K i) = P i) → (∀ i, i < u → P i = true → K i = true) → zct P' (zct K u) = zct P u := by
  intro u
  induction u with
  | zero => intro _ _; rfl
  | succ u ih =>
    intro h hP
    have h1 := ih (fun i hi => h i (Nat.lt_succ_of_lt hi)) (fun i hi => hP i (Nat.lt_succ_of_lt hi))
    by_cases hK : K u = true
    · rw [zct_s hK]
      have h2 := h u (Nat.lt_succ_self u) hK
      show zct P' (zct K u) + (if P' (zct K u) = true then 1 else 0) = zct P u + (if P u = true then 1 else 0)
      rw [h1, h2]
    · have hK2 : K u = false := by cases h : K u with
        | false => rfl
        | true => exact absurd h hK
      have hPu : P u = false := by cases h : P u with
        | false => rfl
        | true => exact absurd (hP u (Nat.lt_succ_self u) h) hK
      rw [zct_n hK2, zct_n hPu, h1]
theorem zec_cmp (h : ∀ i, i < u → K i = true → R' (zct K i) = R i ∧ P' (zct K i) = P i) (hE : zec P R u) : zec P' R' (zct K u) := fun j hj hPj => by
  obtain ⟨i, h1, h2, h3⟩ := zct_sur hj
  obtain ⟨a1, a2⟩ := h i h1 h2
  rw [← h3] at hPj ⊢
  rw [a1]
  obtain ⟨b1, b2⟩ := hE i h1 (a2.symm.trans hPj)
  refine ⟨b1, fun p hp j' hj' hPj' hn => ?_⟩
  obtain ⟨i', g1, g2, g3⟩ := zct_sur hj'
  obtain ⟨c1, c2⟩ := h i' g1 g2
  rw [← g3] at hPj' hn ⊢
  rw [c1]
  exact b2 p hp i' g1 (c2.symm.trans hPj') (fun e => hn (by rw [e]))
end ZCMP
/-- the class's rows -/
def zCw (m : wm) : Nat → zRo := fun j => ((m.1 24 0 j).toNat, m.2.1 25 0 j)
def zKp (m : wm) (k : Int) : Nat → Bool := fun j => decide (m.1 23 0 j = k)
def zCu0 (m : wm) : Nat := (m.1 22 0 3).toNat
/-- the reference's rows -/
def zRw (m : wm) : Nat → zRo := fun j => ((m.1 60 0 j).toNat, m.2.1 61 0 j)
def zRp (m : wm) (q b : Int) : Nat → Bool := fun j => decide (m.1 58 0 j = q ∧ m.1 59 0 j = b)
def zRu (m : wm) : Nat := (m.1 34 0 30).toNat
/-- the class's rows are solved for each other -/
def zCe (m : wm) : Prop := (∀ j, j < zCu0 m → 0 ≤ m.1 24 0 j ∧ m.1 24 0 j ≤ 255) ∧ ∀ k, zec (zKp m k) (zCw m) (zCu0 m)
/-- telling: one step -/
theorem ztl_s {P : Nat → Bool} {R : Nat → zRo} {u w : Nat} {A L v : Nat} {x : Int64} (hE : zec P R u) (hw : w < u) (h : zsq P R w (A ^^^ L, x)) (hb : ∀ i, i < w → P i = true → ∀ p, zlw (R i).1 p → L.testBit p = false) (hP : P w = true) (hv : ∀ p, zlw (R w).1 p → L.testBit p = true) : zsq P R (w + 1) (A ^^^ (L ^^^ (R w).1), x ^^^ (R w).2) ∧ ∀ i, i < w + 1 → P i = true → ∀ p, zlw (R i).1 p → (L ^^^ (R w).1).testBit p = false := by
  constructor
  · refine Or.inr ⟨hP, ?_⟩
    have e : zxo (A ^^^ (L ^^^ (R w).1), x ^^^ (R w).2) (R w) = (A ^^^ L, x) := by
      have := zxo_k (A ^^^ L, x) (R w)
      rw [show zxo (A ^^^ L, x) (R w) = (A ^^^ (L ^^^ (R w).1), x ^^^ (R w).2) from Prod.ext (Nat.xor_assoc _ _ _) rfl] at this
      exact this
    rw [e]
    exact h
  · intro i hi hPi p hp
    rw [Nat.testBit_xor]
    by_cases hiw : i = w
    · subst hiw
      rw [hv p hp, hp.1]
      rfl
    · rw [hb i (by omega) hPi p hp, (hE i (by omega) hPi).2 p hp w hw hP (fun e => hiw e.symm)]
      rfl
theorem ztl_n {P : Nat → Bool} {R : Nat → zRo} {w : Nat} {L : Nat} (hb : ∀ i, i < w → P i = true → ∀ p, zlw (R i).1 p → L.testBit p = false) (hv : P w = true → ∀ p, zlw (R w).1 p → L.testBit p = false) : ∀ i, i < w + 1 → P i = true → ∀ p, zlw (R i).1 p → L.testBit p = false := fun i hi hPi p hp => by
  by_cases hiw : i = w
  · subst hiw; exact hv hPi p hp
  · exact hb i (by omega) hPi p hp
/-- telling: the end -/
theorem ztl_e {P : Nat → Bool} {R : Nat → zRo} {u : Nat} {A L : Nat} {x : Int64} (hE : zec P R u) (h : zsq P R u (A ^^^ L, x)) (hb : ∀ i, i < u → P i = true → ∀ p, zlw (R i).1 p → L.testBit p = false) : L = 0 ↔ ∃ v, zsq P R u (A, v) := by
  constructor
  · intro h0
    rw [h0, Nat.xor_zero] at h
    exact ⟨x, h⟩
  · rintro ⟨v, hv⟩
    have h1 := zsq_x hv h
    have e : zxo (A, v) (A ^^^ L, x) = (L, v ^^^ x) := Prod.ext (show A ^^^ (A ^^^ L) = L by rw [← Nat.xor_assoc, Nat.xor_self, Nat.zero_xor]) rfl
    rw [e] at h1
    exact congrArg Prod.fst (zec_0 hE h1 hb)
/-- a row more, the others solved by it -/
theorem zad_s {P P' : Nat → Bool} {R R' : Nat → zRo} {u : Nat} {a n : zRo} (hP : ∀ j, j < u → P' j = P j) (hPu : P' u = true) (hn : zsq P R u (zxo a n)) (hu : R' u = n) (hR : ∀ j, j < u → P j = true → R' j = R j ∨ R' j = zxo (R j) n) (x : zRo) : zsq P' R' (u + 1) x ↔ zsq P R u x ∨ zsq P R u (zxo x a) := by
  have hT0 : zsq P R u (0, 0) ∨ zsq P R u (zxo (0, 0) a) := Or.inl (zsq_0 u)
  have hTx : ∀ p q : zRo, (zsq P R u p ∨ zsq P R u (zxo p a)) → (zsq P R u q ∨ zsq P R u (zxo q a)) → (zsq P R u (zxo p q) ∨ zsq P R u (zxo (zxo p q) a)) := by
    intro p q hp hq
    rcases hp with hp | hp
    · rcases hq with hq | hq
      · exact Or.inl (zsq_x hp hq)
      · exact Or.inr (by rw [zxo_a]; exact zsq_x hp hq)
    · rcases hq with hq | hq
      · exact Or.inr (by rw [zxo_k2]; exact zsq_x hp hq)
      · refine Or.inl ?_
        have h3 := zsq_x hp hq
        rw [← zxo_a, zxo_k2 p a q, zxo_k] at h3
        exact h3
  have hTn : zsq P R u n ∨ zsq P R u (zxo n a) := Or.inr (by rw [zxo_c]; exact hn)
  constructor
  · refine fun hx => zsq_cl (T := fun x => zsq P R u x ∨ zsq P R u (zxo x a)) hT0 hTx (fun j hj hPj => ?_) hx
    by_cases hju : j = u
    · subst hju; rw [hu]; exact hTn
    · have hPj2 : P j = true := (hP j (by omega)).symm.trans hPj
      rcases hR j (by omega) hPj2 with e | e
      · rw [e]; exact Or.inl (zsq_m (by omega) hPj2)
      · rw [e]; exact hTx _ _ (Or.inl (zsq_m (by omega) hPj2)) hTn
  · have hN : zsq P' R' (u + 1) n := by rw [← hu]; exact zsq_m (Nat.lt_succ_self u) hPu
    have hS : ∀ y, zsq P R u y → zsq P' R' (u + 1) y := fun y hy => zsq_le (fun j hj hPj => by
      have h1 : zsq P' R' (u + 1) (R' j) := zsq_m (by omega) ((hP j hj).trans hPj)
      rcases hR j hj hPj with e | e
      · rw [← e]; exact h1
      · rw [e] at h1
        have h2 := zsq_x h1 hN
        rw [zxo_k] at h2
        exact h2) hy
    have hA : zsq P' R' (u + 1) a := by
      have h1 := zsq_x (hS _ hn) hN
      rw [zxo_k] at h1
      exact h1
    rintro (hx | hx)
    · exact hS x hx
    · have h1 := zsq_x (hS _ hx) hA
      rw [zxo_k] at h1
      exact h1
theorem zad_e {P P' : Nat → Bool} {R R' : Nat → zRo} {u q : Nat} {n : zRo} (hE : zec P R u) (hP : ∀ j, j < u → P' j = P j) (hPu : P' u = true) (hu : R' u = n) (hq : zlw n.1 q) (hb : ∀ i, i < u → P i = true → ∀ p, zlw (R i).1 p → n.1.testBit p = false) (hR : ∀ j, j < u → P j = true → ((R j).1.testBit q = false ∧ R' j = R j) ∨ ((R j).1.testBit q = true ∧ R' j = zxo (R j) n)) : zec P' R' (u + 1) := by
  have hqb : ∀ j, j < u → P j = true → (R' j).1.testBit q = false := fun j hj hPj => by
    rcases hR j hj hPj with ⟨e1, e2⟩ | ⟨e1, e2⟩
    · rw [e2]; exact e1
    · rw [e2]
      show ((R j).1 ^^^ n.1).testBit q = false
      rw [Nat.testBit_xor, e1, hq.1]
      rfl
  have hlow : ∀ j, j < u → P j = true → ∀ p, zlw (R' j).1 p ↔ zlw (R j).1 p := fun j hj hPj p => by
    rcases hR j hj hPj with ⟨e1, e2⟩ | ⟨e1, e2⟩
    · rw [e2]
    · obtain ⟨r, hr⟩ := zlw_e (hE j hj hPj).1
      have hrq : r < q := by
        rcases Nat.lt_trichotomy r q with hl | hl | hl
        · exact hl
        · have := hb j hj hPj r hr; rw [hl, hq.1] at this; cases this
        · have := hr.2 q hl; rw [e1] at this; cases this
      have hr2 : zlw (R' j).1 r := by
        rw [e2]
        refine ⟨?_, fun s hs => ?_⟩
        · show ((R j).1 ^^^ n.1).testBit r = true
          rw [Nat.testBit_xor, hr.1, hq.2 r hrq]
          rfl
        · show ((R j).1 ^^^ n.1).testBit s = false
          rw [Nat.testBit_xor, hr.2 s hs, hq.2 s (by omega)]
          rfl
      exact ⟨fun h => by rw [zlw_u h hr2]; exact hr, fun h => by rw [zlw_u h hr]; exact hr2⟩
  have hbit : ∀ i, i < u → P i = true → ∀ p, zlw (R i).1 p → ∀ j, j < u → P j = true → j ≠ i → (R' j).1.testBit p = false := fun i hi hPi p hp j hj hPj hn => by
    have h1 := (hE i hi hPi).2 p hp j hj hPj hn
    rcases hR j hj hPj with ⟨_, e2⟩ | ⟨_, e2⟩
    · rw [e2]; exact h1
    · rw [e2]
      show ((R j).1 ^^^ n.1).testBit p = false
      rw [Nat.testBit_xor, h1, hb i hi hPi p hp]
      rfl
  intro i hi hPi
  by_cases hiu : i = u
  · subst hiu
    rw [hu]
    refine ⟨fun e => ?_, fun p hp j hj hPj hn => ?_⟩
    · have := hq.1; rw [e, Nat.zero_testBit] at this; cases this
    · rw [zlw_u hp hq]
      exact hqb j (by omega) ((hP j (by omega)).symm.trans hPj)
  · have hi2 : i < u := by omega
    have hPi2 : P i = true := (hP i hi2).symm.trans hPi
    obtain ⟨r, hr⟩ := zlw_e (hE i hi2 hPi2).1
    refine ⟨fun e => ?_, fun p hp j hj hPj hn => ?_⟩
    · have := ((hlow i hi2 hPi2 r).2 hr).1; rw [e, Nat.zero_testBit] at this; cases this
    · have hp2 := (hlow i hi2 hPi2 p).1 hp
      by_cases hju : j = u
      · subst hju; rw [hu]; exact hb i hi2 hPi2 p hp2
      · exact hbit i hi2 hPi2 p hp2 j (by omega) ((hP j (by omega)).symm.trans hPj) hn
