/-! Rows of a block: which sums there are of them. -/
abbrev zRo : Type := Nat × Int64
def zxo (a b : zRo) : zRo := (a.1 ^^^ b.1, a.2 ^^^ b.2)
theorem zxo_c (a b : zRo) : zxo a b = zxo b a := Prod.ext (Nat.xor_comm _ _) (Int64.xor_comm _ _)
theorem zxo_a (a b c : zRo) : zxo (zxo a b) c = zxo a (zxo b c) := Prod.ext (Nat.xor_assoc _ _ _) (Int64.xor_assoc _ _ _)
theorem zxo_s (a : zRo) : zxo a a = (0, 0) := Prod.ext (Nat.xor_self _) Int64.xor_self
theorem zxo_0 (a : zRo) : zxo a (0, 0) = a := Prod.ext (Nat.xor_zero _) Int64.xor_zero
theorem zxo_k (a b : zRo) : zxo (zxo a b) b = a := by rw [zxo_a, zxo_s, zxo_0]
theorem zxo_k2 (a b c : zRo) : zxo (zxo a b) c = zxo (zxo a c) b := by rw [zxo_a, zxo_c b c, ← zxo_a]
def zsq (P : Nat → Bool) (R : Nat → zRo) : Nat → zRo → Prop
  | 0, p => p = (0, 0)
  | u + 1, p => zsq P R u p ∨ (P u = true ∧ zsq P R u (zxo p (R u)))
def zct (P : Nat → Bool) : Nat → Nat
  | 0 => 0
  | u + 1 => zct P u + (if P u = true then 1 else 0)
section ZSQ
variable {P P' : Nat → Bool} {R R' : Nat → zRo}
theorem zsq_0 : ∀ u, zsq P R u (0, 0) := by
  intro u
  induction u with
  | zero => exact rfl
  | succ u ih => exact Or.inl ih
theorem zsq_cl {T : zRo → Prop} (h0 : T (0, 0)) (hx : ∀ p q, T p → T q → T (zxo p q)) : ∀ {u : Nat} {p : zRo}, (∀ j, j < u → P j = true → T (R j)) → zsq P R u p → T p := by
  intro u
  induction u with
  | zero => intro p _ h; rw [show p = (0, 0) from h]; exact h0
  | succ u ih =>
    intro p hT h
    have hT2 : ∀ j, j < u → P j = true → T (R j) := fun j hj => hT j (Nat.lt_succ_of_lt hj)
    rcases h with h | ⟨h1, h2⟩
    · exact ih hT2 h
    · have h3 := hx _ _ (ih hT2 h2) (hT u (Nat.lt_succ_self u) h1)
      rw [zxo_k] at h3
      exact h3
theorem zsq_x : ∀ {u : Nat} {p q : zRo}, zsq P R u p → zsq P R u q → zsq P R u (zxo p q) := by
  intro u
  induction u with
  | zero =>
    intro p q hp hq
    rw [show p = (0, 0) from hp, show q = (0, 0) from hq]
    exact zxo_0 _
  | succ u ih =>
    intro p q hp hq
    rcases hp with hp | ⟨hP, hp⟩
    · rcases hq with hq | ⟨hP, hq⟩
      · exact Or.inl (ih hp hq)
      · refine Or.inr ⟨hP, ?_⟩
        rw [zxo_a]
        exact ih hp hq
    · rcases hq with hq | ⟨_, hq⟩
      · refine Or.inr ⟨hP, ?_⟩
        rw [zxo_k2]
        exact ih hp hq
      · refine Or.inl ?_
        have h3 := ih hp hq
        rw [← zxo_a, zxo_k2 p (R u) q, zxo_k] at h3
        exact h3
theorem zsq_m {u j : Nat} (hj : j < u) (hP : P j = true) : zsq P R u (R j) := by
  induction u with
  | zero => exact absurd hj (Nat.not_lt_zero j)
  | succ u ih =>
    by_cases h : j = u
    · subst h
      refine Or.inr ⟨hP, ?_⟩
      rw [zxo_s]
      exact zsq_0 _
    · exact Or.inl (ih (by omega))
theorem zsq_le {u u' : Nat} {p : zRo} (h : ∀ j, j < u → P j = true → zsq P' R' u' (R j)) (hp : zsq P R u p) : zsq P' R' u' p := zsq_cl (zsq_0 _) (fun _ _ a b => zsq_x a b) h hp
theorem zsq_c {u : Nat} {p : zRo} (h : ∀ j, j < u → P j = P' j ∧ (P j = true → R j = R' j)) : zsq P R u p ↔ zsq P' R' u p := by
  constructor
  · refine fun hp => zsq_le (fun j hj hP => ?_) hp
    obtain ⟨h1, h2⟩ := h j hj
    rw [h2 hP]
    exact zsq_m hj (h1 ▸ hP)
  · refine fun hp => zsq_le (fun j hj hP => ?_) hp
    obtain ⟨h1, h2⟩ := h j hj
    have hP2 : P j = true := h1.trans hP
    rw [← h2 hP2]
    exact zsq_m hj hP2
theorem zct_c {u : Nat} (h : ∀ j, j < u → P j = P' j) : zct P u = zct P' u := by
  induction u with
  | zero => rfl
  | succ u ih =>
    show zct P u + (if P u = true then 1 else 0) = zct P' u + (if P' u = true then 1 else 0)
    rw [ih (fun j hj => h j (Nat.lt_succ_of_lt hj)), h u (Nat.lt_succ_self u)]
theorem zct_le : ∀ u, zct P u ≤ u := by
  intro u
  induction u with
  | zero => exact Nat.le_refl _
  | succ u ih =>
    show zct P u + (if P u = true then 1 else 0) ≤ u + 1
    split <;> omega
theorem zct_z {u : Nat} (h : ∀ j, j < u → P j = false) : zct P u = 0 := by
  induction u with
  | zero => rfl
  | succ u ih =>
    show zct P u + (if P u = true then 1 else 0) = 0
    rw [ih (fun j hj => h j (Nat.lt_succ_of_lt hj)), h u (Nat.lt_succ_self u)]
    rfl
theorem zct_p {u j : Nat} (hj : j < u) (hP : P j = true) : 1 ≤ zct P u := by
  induction u with
  | zero => exact absurd hj (Nat.not_lt_zero j)
  | succ u ih =>
    show 1 ≤ zct P u + (if P u = true then 1 else 0)
    by_cases h : j = u
    · subst h
      rw [if_pos hP]
      omega
    · have := ih (by omega)
      omega
theorem zct_e {u : Nat} (h : 1 ≤ zct P u) : ∃ j, j < u ∧ P j = true := by
  induction u with
  | zero => exact absurd (show 1 ≤ 0 from h) (by decide)
  | succ u ih =>
    by_cases hP : P u = true
    · exact ⟨u, Nat.lt_succ_self u, hP⟩
    · have h2 : 1 ≤ zct P u + (if P u = true then 1 else 0) := h
      rw [if_neg hP] at h2
      obtain ⟨j, hj, h3⟩ := ih h2
      exact ⟨j, Nat.lt_succ_of_lt hj, h3⟩
/-- one more row: what the sums are then -/
theorem zsq_s {u : Nat} {p : zRo} (hP : P u = true) : zsq P R (u + 1) p ↔ zsq P R u p ∨ zsq P R u (zxo p (R u)) :=
  ⟨fun h => h.elim Or.inl (fun h => Or.inr h.2), fun h => h.elim Or.inl (fun h => Or.inr ⟨hP, h⟩)⟩
theorem zsq_n {u : Nat} {p : zRo} (hP : P u = false) : zsq P R (u + 1) p ↔ zsq P R u p :=
  ⟨fun h => h.elim id (fun h => absurd (h.1.symm.trans hP) (by decide)), Or.inl⟩
theorem zct_s {u : Nat} (hP : P u = true) : zct P (u + 1) = zct P u + 1 := by
  show zct P u + (if P u = true then 1 else 0) = _
  rw [if_pos hP]
theorem zct_n {u : Nat} (hP : P u = false) : zct P (u + 1) = zct P u := by
  show zct P u + (if P u = true then 1 else 0) = _
  rw [hP]
  rfl
end ZSQ
/-- the lowest bit -/
def zlw (M p : Nat) : Prop := M.testBit p = true ∧ ∀ q, q < p → M.testBit q = false
theorem zlw_u {M p q : Nat} (h : zlw M p) (h' : zlw M q) : p = q := by
  rcases Nat.lt_trichotomy p q with hl | hl | hl
  · have := h'.2 p hl; rw [h.1] at this; cases this
  · exact hl
  · have := h.2 q hl; rw [h'.1] at this; cases this
theorem zlw_e {M : Nat} (h : M ≠ 0) : ∃ p, zlw M p := by
  have h1 : ∃ p, M.testBit p = true := by
    apply Classical.byContradiction
    intro hn
    apply h
    apply Nat.eq_of_testBit_eq
    intro i
    rw [Nat.zero_testBit]
    cases hb : M.testBit i with
    | false => rfl
    | true => exact absurd ⟨i, hb⟩ hn
  obtain ⟨p, hp⟩ := h1
  have : ∀ d p, p ≤ d → M.testBit p = true → ∃ q, zlw M q := by
    intro d
    induction d with
    | zero => intro p h0 hp; refine ⟨p, hp, fun q hq => absurd hq (by omega)⟩
    | succ d ih =>
      intro p h0 hp
      by_cases hq : ∃ q, q < p ∧ M.testBit q = true
      · obtain ⟨q, h1, h2⟩ := hq
        exact ih q (by omega) h2
      · refine ⟨p, hp, fun q hq2 => ?_⟩
        cases hb : M.testBit q with
        | false => rfl
        | true => exact absurd ⟨q, hq2, hb⟩ hq
  exact this p p (Nat.le_refl p) hp
/-- solved for each other: the lowest bit of each is in no other one -/
def zec (P : Nat → Bool) (R : Nat → zRo) (u : Nat) : Prop := ∀ i, i < u → P i = true → (R i).1 ≠ 0 ∧ ∀ p, zlw (R i).1 p → ∀ j, j < u → P j = true → j ≠ i → (R j).1.testBit p = false
section ZEC
variable {P : Nat → Bool} {R : Nat → zRo}
theorem zec_d {u : Nat} (h : zec P R (u + 1)) : zec P R u := fun i hi hP => ⟨(h i (Nat.lt_succ_of_lt hi) hP).1, fun p hp j hj hPj hn => (h i (Nat.lt_succ_of_lt hi) hP).2 p hp j (Nat.lt_succ_of_lt hj) hPj hn⟩
/-- a sum that has none of their lowest bits is nothing -/
theorem zec_0 : ∀ {u : Nat} {x : zRo}, zec P R u → zsq P R u x → (∀ i, i < u → P i = true → ∀ p, zlw (R i).1 p → x.1.testBit p = false) → x = (0, 0) := by
  intro u
  induction u with
  | zero => intro x _ h _; exact h
  | succ u ih =>
    intro x hE h hb
    rcases h with h | ⟨hP, h⟩
    · exact ih (zec_d hE) h (fun i hi => hb i (Nat.lt_succ_of_lt hi))
    · have h3 := ih (zec_d hE) h (fun i hi hPi p hp => by
        show (x.1 ^^^ (R u).1).testBit p = false
        rw [Nat.testBit_xor, hb i (Nat.lt_succ_of_lt hi) hPi p hp, (hE i (Nat.lt_succ_of_lt hi) hPi).2 p hp u (Nat.lt_succ_self u) hP (by omega)]
        rfl)
      have h4 : x = R u := by
        have := congrArg (fun y => zxo y (R u)) h3
        rw [show zxo (zxo x (R u)) (R u) = x from zxo_k _ _, zxo_c, zxo_0] at this
        exact this
      obtain ⟨p, hp⟩ := zlw_e (hE u (Nat.lt_succ_self u) hP).1
      have h5 := hb u (Nat.lt_succ_self u) hP p hp
      rw [h4, hp.1] at h5
      cases h5
/-- of a mask there is one sum at most -/
theorem zec_u {u : Nat} {M : Nat} {v w : Int64} (hE : zec P R u) (h : zsq P R u (M, v)) (h' : zsq P R u (M, w)) : v = w := by
  have h1 := zsq_x h h'
  have h2 := zec_0 hE h1 (fun i hi hP p hp => by
    show (M ^^^ M).testBit p = false
    rw [Nat.xor_self, Nat.zero_testBit])
  have h3 : v ^^^ w = 0 := congrArg Prod.snd h2
  have h4 : (v ^^^ w) ^^^ w = 0 ^^^ w := by rw [h3]
  rw [Int64.xor_assoc, Int64.xor_self, Int64.xor_zero, Int64.zero_xor] at h4
  exact h4
end ZEC
/-- how many bits there are at most -/
theorem zct_rm {B : Nat → Bool} {p : Nat} (hB : B p = true) : ∀ {n : Nat}, p < n → zct (fun q => B q && decide (q ≠ p)) n + 1 = zct B n := by
  intro n
  induction n with
  | zero => intro h; exact absurd h (Nat.not_lt_zero p)
  | succ n ih =>
    intro h
    by_cases hp : p = n
    · subst hp
      rw [zct_s hB, zct_n (by simp)]
      congr 1
      exact zct_c fun j hj => by
        have : decide (j ≠ p) = true := decide_eq_true (by omega)
        rw [this, Bool.and_true]
    · have h2 := ih (by omega)
      show zct (fun q => B q && decide (q ≠ p)) n + (if (B n && decide (n ≠ p)) = true then 1 else 0) + 1 = zct B n + (if B n = true then 1 else 0)
      have : decide (n ≠ p) = true := decide_eq_true (by omega)
      rw [this, Bool.and_true]
      omega
theorem zpg {P : Nat → Bool} {R : Nat → zRo} {n : Nat} : ∀ {u : Nat} {B : Nat → Bool}, zec P R u → (∀ i, i < u → P i = true → ∃ p, p < n ∧ B p = true ∧ zlw (R i).1 p) → zct P u ≤ zct B n := by
  intro u
  induction u with
  | zero => intro B _ _; exact Nat.zero_le _
  | succ u ih =>
    intro B hE hB
    by_cases hP : P u = true
    · obtain ⟨p, h1, h2, h3⟩ := hB u (Nat.lt_succ_self u) hP
      rw [zct_s hP, ← zct_rm h2 h1]
      refine Nat.succ_le_succ (ih (zec_d hE) fun i hi hPi => ?_)
      obtain ⟨q, g1, g2, g3⟩ := hB i (Nat.lt_succ_of_lt hi) hPi
      refine ⟨q, g1, ?_, g3⟩
      have hne : q ≠ p := fun e => by
        have := (hE u (Nat.lt_succ_self u) hP).2 p h3 i (Nat.lt_succ_of_lt hi) hPi (by omega)
        rw [← e, g3.1] at this
        cases this
      rw [g2, Bool.true_and]
      exact decide_eq_true hne
    · have hP2 : P u = false := by cases h : P u with
        | false => rfl
        | true => exact absurd h hP
      rw [zct_n hP2]
      exact ih (zec_d hE) fun i hi => hB i (Nat.lt_succ_of_lt hi)
theorem zct_tt : ∀ n, zct (fun _ => true) n = n := by
  intro n
  induction n with
  | zero => rfl
  | succ n ih => rw [zct_s rfl, ih]
/-- as many rows as pieces: each is one piece -/
theorem zec_1 {P : Nat → Bool} {R : Nat → zRo} {u n k : Nat} (hE : zec P R u) (hm : ∀ i, i < u → P i = true → (R i).1 < 2 ^ n) (hc : n ≤ zct P u) (hk : k < n) : ∃ i, i < u ∧ P i = true ∧ (R i).1 = 2 ^ k := by
  have hlt : ∀ i, i < u → P i = true → ∀ p, (R i).1.testBit p = true → p < n := fun i hi hP p hp => by
    apply Decidable.byContradiction
    intro hn
    have h1 := Nat.testBit_lt_two_pow (Nat.lt_of_lt_of_le (hm i hi hP) (Nat.pow_le_pow_right (by decide) (show n ≤ p by omega)))
    rw [hp] at h1
    cases h1
  have hall : ∀ k, k < n → ∃ i, i < u ∧ P i = true ∧ zlw (R i).1 k := fun k hk => by
    apply Classical.byContradiction
    intro hn
    have h1 := zpg (n := n) (B := fun q => true && decide (q ≠ k)) hE (fun i hi hP => by
      obtain ⟨p, hp⟩ := zlw_e (hE i hi hP).1
      refine ⟨p, hlt i hi hP p hp.1, ?_, hp⟩
      show (true && decide (p ≠ k)) = true
      rw [Bool.true_and]
      exact decide_eq_true fun e => hn ⟨i, hi, hP, e ▸ hp⟩)
    have h2 := zct_rm (B := fun _ => true) (p := k) rfl hk
    rw [zct_tt] at h2
    omega
  obtain ⟨i, hi, hP, hl⟩ := hall k hk
  refine ⟨i, hi, hP, ?_⟩
  apply Nat.eq_of_testBit_eq
  intro q
  rw [Nat.testBit_two_pow]
  by_cases hq : k = q
  · rw [decide_eq_true hq, ← hq]; exact hl.1
  · rw [decide_eq_false hq]
    cases hb : (R i).1.testBit q with
    | false => rfl
    | true =>
      obtain ⟨j, hj, hPj, hlj⟩ := hall q (hlt i hi hP q hb)
      have hne : i ≠ j := fun e => by
        rw [← e] at hlj
        exact hq (zlw_u hl hlj)
      have := (hE j hj hPj).2 q hlj i hi hP hne
      rw [hb] at this
      exact this
