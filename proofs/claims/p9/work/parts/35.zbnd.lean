/-! The bounds of what lies in named memory; c: how often a count may have gone up. -/
def zbt (c : Int) : List (Nat → Nat → Int × Int) := [
  fun i j => if j = 7 then (0, c) else ((-2147483648), 2147483647),
  fun i j => if j = 1 then (0, zlim i) else ((-2147483648), 2147483647),
  fun _ _ => (0, 255),
  fun i j => if j = 2 then (1, 255) else if j = 3 then (0, 3) else ((-2147483648), 2147483647),
  fun _ _ => ((-2147483648), 2147483647),
  fun _ _ => (0, 1000),
  fun i j => if j = 3 then (0, 6) else if j = 4 then (0, 1000) else ((-2147483648), 2147483647),
  fun _ _ => ((-2147483648), 2147483647),
  fun _ _ => ((-2147483648), 2147483647),
  fun _ _ => ((-2147483648), 2147483647),
  fun i j => if j = 1 then (0, 1000) else if j = 2 then (0, 7) else ((-2147483648), 2147483647),
  fun _ _ => ((-2147483648), 2147483647),
  fun _ _ => ((-2147483648), 2147483647),
  fun i j => if j = 2 then (0, 96) else if j = 3 then (0, 6) else ((-2147483648), 2147483647),
  fun _ _ => (0, 1),
  fun _ _ => (0, 1),
  fun i j => if j = 3 then (0, c) else ((-2147483648), 2147483647),
  fun _ _ => (0, 65535),
  fun _ _ => ((-2147483648), 2147483647),
  fun i j => if j = 5 then (0, 255) else if j = 6 then (0, c) else ((-2147483648), 2147483647),
  fun _ _ => ((-2147483648), 2147483647),
  fun _ _ => ((-2147483648), 2147483647),
  fun i j => if j = 3 then (0, 24) else ((-2147483648), 2147483647),
  fun _ _ => (0, 4000000),
  fun _ _ => ((-2147483648), 2147483647),
  fun _ _ => ((-2147483648), 2147483647),
  fun i j => if j = 7 then (0, 65535) else if j = 8 then (0, 5) else if j = 9 then (0, 6) else if j = 10 then (0, 1) else ((-2147483648), 2147483647),
  fun _ _ => ((-2147483648), 2147483647),
  fun _ _ => (0, 1),
  fun _ _ => (0, 1),
  fun _ _ => (0, 10000),
  fun _ _ => (0, 255),
  fun _ _ => (0, 255),
  fun _ _ => ((-2147483648), 2147483647),
  fun i j => if j = 0 then (0, 2) else if j = 1 then (0, 6) else if j = 2 then (0, 96) else if j = 14 then (1, 255) else if j = 15 then (0, c) else if j = 16 then (0, c) else if j = 21 then (0, 255) else if j = 30 then (0, 24) else if j = 35 then (0, c) else if j = 36 then ((-1), 96) else if j = 37 then ((-1), 6) else if j = 47 then (0, c) else ((-2147483648), 2147483647),
  fun _ _ => (0, 255),
  fun _ _ => (0, 255),
  fun _ _ => (0, 6),
  fun _ _ => (0, 6),
  fun _ _ => (0, 255),
  fun _ _ => (0, 96),
  fun _ _ => (0, 255),
  fun _ _ => (0, 1000),
  fun _ _ => (0, 7),
  fun _ _ => (0, 104),
  fun _ _ => (0, 255),
  fun _ _ => (0, c),
  fun _ _ => (0, 255),
  fun _ _ => (0, 1),
  fun i j => if j = 0 then (0, 1) else if j = 1 then (0, 1000) else if j = 2 then (0, 6) else if j = 3 then (0, 1) else if j = 4 then (0, 31) else ((-2147483648), 2147483647),
  fun _ _ => (0, 65535),
  fun _ _ => (0, 1),
  fun _ _ => (0, 6),
  fun _ _ => (0, 2),
  fun _ _ => ((-1), 104),
  fun _ _ => (0, 1),
  fun _ _ => (0, 255),
  fun _ _ => (0, 1),
  fun _ _ => (0, 55),
  fun _ _ => (0, 1),
  fun _ _ => ((-2147483648), 2147483647),
  fun _ _ => ((-2147483648), 2147483647),
  fun _ _ => (0, 1),
  fun _ _ => (0, 1),
  fun _ _ => (0, 65535),
  fun _ _ => (0, c),
  fun _ _ => (0, 65535),
  fun _ _ => (0, 6),
  fun _ j => if j % 7 = 0 then (0, 6) else (0, 255),
  fun _ _ => (0, 96),
  fun _ _ => (0, 255),
  fun _ _ => (0, 65535),
  fun _ _ => ((-2147483648), 2147483647),
  fun _ _ => ((-2147483648), 2147483647)]
def zBi (c : Int) (m : wm) : Prop := ∀ k f, (zbt c)[k]? = some f → ∀ i j, (f i j).1 ≤ m.1 k i j ∧ m.1 k i j ≤ (f i j).2
def zBr (m : wm) : Prop := ∀ f j, f < 2 → j < 6 → 35 + 6 * f ≤ m.2.2 7 f j ∧ m.2.2 7 f j < 41 + 6 * f ∧ 47 + 6 * f ≤ m.2.2 8 f j ∧ m.2.2 8 f j < 53 + 6 * f
def zB (c : Int) (m : wm) : Prop := zBi c m ∧ zBr m
theorem zB_wI {c : Int} {m : wm} {k i j : Nat} {X : Int} {f : Nat → Nat → Int × Int} (hf : (zbt c)[k]? = some f) (hX : (f i j).1 ≤ X ∧ X ≤ (f i j).2) (h : zB c m) : zB c (wuI m k i j X) := by
  refine ⟨fun k' f' hf' i' j' => ?_, h.2⟩
  show (f' i' j').1 ≤ (if k' = k ∧ i' = i ∧ j' = j then X else m.1 k' i' j') ∧ (if k' = k ∧ i' = i ∧ j' = j then X else m.1 k' i' j') ≤ (f' i' j').2
  by_cases hq : k' = k ∧ i' = i ∧ j' = j
  · rw [if_pos hq]
    obtain ⟨rfl, rfl, rfl⟩ := hq
    rw [hf] at hf'
    cases hf'
    exact hX
  · rw [if_neg hq]
    exact h.1 k' f' hf' i' j'
theorem zB_cp {c : Int} {m : wm} {k0 i0 sp k i dp n : Nat} {lo hi : Int} (hf : (zbt c)[k]? = some fun _ _ => (lo, hi)) (hf0 : (zbt c)[k0]? = some fun _ _ => (lo, hi)) (h : zB c m) : zB c (wcp m k0 i0 sp k i dp n) := by
  refine ⟨fun k' f' hf' i' j' => ?_, h.2⟩
  show (f' i' j').1 ≤ (if k' = k ∧ i' = i ∧ dp ≤ j' ∧ j' < dp + n then m.1 k0 i0 (sp + (j' - dp)) else m.1 k' i' j') ∧ (if k' = k ∧ i' = i ∧ dp ≤ j' ∧ j' < dp + n then m.1 k0 i0 (sp + (j' - dp)) else m.1 k' i' j') ≤ (f' i' j').2
  by_cases hq : k' = k ∧ i' = i ∧ dp ≤ j' ∧ j' < dp + n
  · rw [if_pos hq]
    obtain ⟨rfl, rfl, _⟩ := hq
    rw [hf] at hf'
    cases hf'
    exact h.1 k0 _ hf0 i0 _
  · rw [if_neg hq]
    exact h.1 k' f' hf' i' j'
theorem zB_wL {c : Int} {m : wm} {k i j : Nat} {x : Int64} (h : zB c m) : zB c (wuL m k i j x) := h
theorem zB_wR {c : Int} {m : wm} {k i j x : Nat} (h : zB c m) (hx : zBr (wuR m k i j x)) : zB c (wuR m k i j x) := ⟨h.1, hx⟩
/-- what may have been written -/
def zfr (e : Nat → Nat → Nat → Prop) (m m' : wm) : Prop := ∀ k i j, ¬ e k i j → m'.1 k i j = m.1 k i j ∧ m'.2.1 k i j = m.2.1 k i j ∧ m'.2.2 k i j = m.2.2 k i j
section ZFR
variable {e e1 : Nat → Nat → Nat → Prop} {m m1 m2 : wm} {k i j : Nat}
theorem zfr_rf : zfr e m m := fun k i j _ => ⟨rfl, rfl, rfl⟩
theorem zfr_tr (h1 : zfr e m m1) (h2 : zfr e1 m1 m2) (a : ∀ k i j, e1 k i j → e k i j) : zfr e m m2 := fun k i j hk => by
  obtain ⟨p1, p2, p3⟩ := h1 k i j hk
  obtain ⟨q1, q2, q3⟩ := h2 k i j (fun z => hk (a k i j z))
  exact ⟨q1.trans p1, q2.trans p2, q3.trans p3⟩
theorem zfr_wI {X : Int} (h : zfr e m m1) (hk : e k i j) : zfr e m (wuI m1 k i j X) := fun k' i' j' h1 => by
  obtain ⟨p1, p2, p3⟩ := h k' i' j' h1
  refine ⟨?_, p2, p3⟩
  show (if k' = k ∧ i' = i ∧ j' = j then X else m1.1 k' i' j') = _
  rw [if_neg (fun z => by obtain ⟨rfl, rfl, rfl⟩ := z; exact h1 hk)]
  exact p1
theorem zfr_wL {x : Int64} (h : zfr e m m1) (hk : e k i j) : zfr e m (wuL m1 k i j x) := fun k' i' j' h1 => by
  obtain ⟨p1, p2, p3⟩ := h k' i' j' h1
  refine ⟨p1, ?_, p3⟩
  show (if k' = k ∧ i' = i ∧ j' = j then x else m1.2.1 k' i' j') = _
  rw [if_neg (fun z => by obtain ⟨rfl, rfl, rfl⟩ := z; exact h1 hk)]
  exact p2
theorem zfr_wR {x : Nat} (h : zfr e m m1) (hk : e k i j) : zfr e m (wuR m1 k i j x) := fun k' i' j' h1 => by
  obtain ⟨p1, p2, p3⟩ := h k' i' j' h1
  refine ⟨p1, p2, ?_⟩
  show (if k' = k ∧ i' = i ∧ j' = j then x else m1.2.2 k' i' j') = _
  rw [if_neg (fun z => by obtain ⟨rfl, rfl, rfl⟩ := z; exact h1 hk)]
  exact p3
theorem zfr_cp {k0 i0 sp dp n : Nat} (h : zfr e m m1) (hk : ∀ j, e k i j) : zfr e m (wcp m1 k0 i0 sp k i dp n) := fun k' i' j' h1 => by
  obtain ⟨p1, p2, p3⟩ := h k' i' j' h1
  refine ⟨?_, p2, p3⟩
  show (if k' = k ∧ i' = i ∧ dp ≤ j' ∧ j' < dp + n then m1.1 k0 i0 (sp + (j' - dp)) else m1.1 k' i' j') = _
  rw [if_neg (fun z => by obtain ⟨rfl, rfl, _⟩ := z; exact h1 (hk _))]
  exact p1
end ZFR
def zle2 : List (Nat → Nat → Int × Int) → List (Nat → Nat → Int × Int) → Prop
  | [], [] => True
  | f :: l, f' :: l' => (∀ i j, (f' i j).1 ≤ (f i j).1 ∧ (f i j).2 ≤ (f' i j).2) ∧ zle2 l l'
  | _, _ => False
theorem zle2_at : ∀ {l l' : List (Nat → Nat → Int × Int)} {k : Nat} {f' : Nat → Nat → Int × Int}, zle2 l l' → l'[k]? = some f' → ∃ f, l[k]? = some f ∧ ∀ i j, (f' i j).1 ≤ (f i j).1 ∧ (f i j).2 ≤ (f' i j).2 := by
  intro l
  induction l with
  | nil => intro l' k f' h hf; cases l' with
    | nil => cases hf
    | cons g l' => exact h.elim
  | cons g l ih => intro l' k f' h hf; cases l' with
    | nil => exact h.elim
    | cons g' l' => cases k with
      | zero => cases hf; exact ⟨g, rfl, h.1⟩
      | succ k => exact ih h.2 hf
theorem zbt_le {c c' : Int} (hc : c ≤ c') : zle2 (zbt c) (zbt c') :=
  ⟨fun i j => by
    dsimp only
    by_cases hf7 : j = 7
    · rw [if_pos hf7, if_pos hf7]; exact ⟨Int.le_refl _, hc⟩
    rw [if_neg hf7, if_neg hf7]
    exact ⟨Int.le_refl _, Int.le_refl _⟩,
  fun i j => ⟨Int.le_refl _, Int.le_refl _⟩,
  fun i j => ⟨Int.le_refl _, Int.le_refl _⟩,
  fun i j => ⟨Int.le_refl _, Int.le_refl _⟩,
  fun i j => ⟨Int.le_refl _, Int.le_refl _⟩,
  fun i j => ⟨Int.le_refl _, Int.le_refl _⟩,
  fun i j => ⟨Int.le_refl _, Int.le_refl _⟩,
  fun i j => ⟨Int.le_refl _, Int.le_refl _⟩,
  fun i j => ⟨Int.le_refl _, Int.le_refl _⟩,
  fun i j => ⟨Int.le_refl _, Int.le_refl _⟩,
  fun i j => ⟨Int.le_refl _, Int.le_refl _⟩,
  fun i j => ⟨Int.le_refl _, Int.le_refl _⟩,
  fun i j => ⟨Int.le_refl _, Int.le_refl _⟩,
  fun i j => ⟨Int.le_refl _, Int.le_refl _⟩,
  fun i j => ⟨Int.le_refl _, Int.le_refl _⟩,
  fun i j => ⟨Int.le_refl _, Int.le_refl _⟩,
  fun i j => by
    dsimp only
    by_cases hf3 : j = 3
    · rw [if_pos hf3, if_pos hf3]; exact ⟨Int.le_refl _, hc⟩
    rw [if_neg hf3, if_neg hf3]
    exact ⟨Int.le_refl _, Int.le_refl _⟩,
  fun i j => ⟨Int.le_refl _, Int.le_refl _⟩,
  fun i j => ⟨Int.le_refl _, Int.le_refl _⟩,
  fun i j => by
    dsimp only
    by_cases hf5 : j = 5
    · rw [if_pos hf5, if_pos hf5]; exact ⟨Int.le_refl _, Int.le_refl _⟩
    rw [if_neg hf5, if_neg hf5]
    by_cases hf6 : j = 6
    · rw [if_pos hf6, if_pos hf6]; exact ⟨Int.le_refl _, hc⟩
    rw [if_neg hf6, if_neg hf6]
    exact ⟨Int.le_refl _, Int.le_refl _⟩,
  fun i j => ⟨Int.le_refl _, Int.le_refl _⟩,
  fun i j => ⟨Int.le_refl _, Int.le_refl _⟩,
  fun i j => ⟨Int.le_refl _, Int.le_refl _⟩,
  fun i j => ⟨Int.le_refl _, Int.le_refl _⟩,
  fun i j => ⟨Int.le_refl _, Int.le_refl _⟩,
  fun i j => ⟨Int.le_refl _, Int.le_refl _⟩,
  fun i j => ⟨Int.le_refl _, Int.le_refl _⟩,
  fun i j => ⟨Int.le_refl _, Int.le_refl _⟩,
  fun i j => ⟨Int.le_refl _, Int.le_refl _⟩,
  fun i j => ⟨Int.le_refl _, Int.le_refl _⟩,
  fun i j => ⟨Int.le_refl _, Int.le_refl _⟩,
  fun i j => ⟨Int.le_refl _, Int.le_refl _⟩,
  fun i j => ⟨Int.le_refl _, Int.le_refl _⟩,
  fun i j => ⟨Int.le_refl _, Int.le_refl _⟩,
  fun i j => by
    dsimp only
    by_cases hf0 : j = 0
    · rw [if_pos hf0, if_pos hf0]; exact ⟨Int.le_refl _, Int.le_refl _⟩
    rw [if_neg hf0, if_neg hf0]
    by_cases hf1 : j = 1
    · rw [if_pos hf1, if_pos hf1]; exact ⟨Int.le_refl _, Int.le_refl _⟩
    rw [if_neg hf1, if_neg hf1]
    by_cases hf2 : j = 2
    · rw [if_pos hf2, if_pos hf2]; exact ⟨Int.le_refl _, Int.le_refl _⟩
    rw [if_neg hf2, if_neg hf2]
    by_cases hf14 : j = 14
    · rw [if_pos hf14, if_pos hf14]; exact ⟨Int.le_refl _, Int.le_refl _⟩
    rw [if_neg hf14, if_neg hf14]
    by_cases hf15 : j = 15
    · rw [if_pos hf15, if_pos hf15]; exact ⟨Int.le_refl _, hc⟩
    rw [if_neg hf15, if_neg hf15]
    by_cases hf16 : j = 16
    · rw [if_pos hf16, if_pos hf16]; exact ⟨Int.le_refl _, hc⟩
    rw [if_neg hf16, if_neg hf16]
    by_cases hf21 : j = 21
    · rw [if_pos hf21, if_pos hf21]; exact ⟨Int.le_refl _, Int.le_refl _⟩
    rw [if_neg hf21, if_neg hf21]
    by_cases hf30 : j = 30
    · rw [if_pos hf30, if_pos hf30]; exact ⟨Int.le_refl _, Int.le_refl _⟩
    rw [if_neg hf30, if_neg hf30]
    by_cases hf35 : j = 35
    · rw [if_pos hf35, if_pos hf35]; exact ⟨Int.le_refl _, hc⟩
    rw [if_neg hf35, if_neg hf35]
    by_cases hf36 : j = 36
    · rw [if_pos hf36, if_pos hf36]; exact ⟨Int.le_refl _, Int.le_refl _⟩
    rw [if_neg hf36, if_neg hf36]
    by_cases hf37 : j = 37
    · rw [if_pos hf37, if_pos hf37]; exact ⟨Int.le_refl _, Int.le_refl _⟩
    rw [if_neg hf37, if_neg hf37]
    by_cases hf47 : j = 47
    · rw [if_pos hf47, if_pos hf47]; exact ⟨Int.le_refl _, hc⟩
    rw [if_neg hf47, if_neg hf47]
    exact ⟨Int.le_refl _, Int.le_refl _⟩,
  fun i j => ⟨Int.le_refl _, Int.le_refl _⟩,
  fun i j => ⟨Int.le_refl _, Int.le_refl _⟩,
  fun i j => ⟨Int.le_refl _, Int.le_refl _⟩,
  fun i j => ⟨Int.le_refl _, Int.le_refl _⟩,
  fun i j => ⟨Int.le_refl _, Int.le_refl _⟩,
  fun i j => ⟨Int.le_refl _, Int.le_refl _⟩,
  fun i j => ⟨Int.le_refl _, Int.le_refl _⟩,
  fun i j => ⟨Int.le_refl _, Int.le_refl _⟩,
  fun i j => ⟨Int.le_refl _, Int.le_refl _⟩,
  fun i j => ⟨Int.le_refl _, Int.le_refl _⟩,
  fun i j => ⟨Int.le_refl _, Int.le_refl _⟩,
  fun i j => ⟨Int.le_refl _, hc⟩,
  fun i j => ⟨Int.le_refl _, Int.le_refl _⟩,
  fun i j => ⟨Int.le_refl _, Int.le_refl _⟩,
  fun i j => ⟨Int.le_refl _, Int.le_refl _⟩,
  fun i j => ⟨Int.le_refl _, Int.le_refl _⟩,
  fun i j => ⟨Int.le_refl _, Int.le_refl _⟩,
  fun i j => ⟨Int.le_refl _, Int.le_refl _⟩,
  fun i j => ⟨Int.le_refl _, Int.le_refl _⟩,
  fun i j => ⟨Int.le_refl _, Int.le_refl _⟩,
  fun i j => ⟨Int.le_refl _, Int.le_refl _⟩,
  fun i j => ⟨Int.le_refl _, Int.le_refl _⟩,
  fun i j => ⟨Int.le_refl _, Int.le_refl _⟩,
  fun i j => ⟨Int.le_refl _, Int.le_refl _⟩,
  fun i j => ⟨Int.le_refl _, Int.le_refl _⟩,
  fun i j => ⟨Int.le_refl _, Int.le_refl _⟩,
  fun i j => ⟨Int.le_refl _, Int.le_refl _⟩,
  fun i j => ⟨Int.le_refl _, Int.le_refl _⟩,
  fun i j => ⟨Int.le_refl _, Int.le_refl _⟩,
  fun i j => ⟨Int.le_refl _, Int.le_refl _⟩,
  fun i j => ⟨Int.le_refl _, hc⟩,
  fun i j => ⟨Int.le_refl _, Int.le_refl _⟩,
  fun i j => ⟨Int.le_refl _, Int.le_refl _⟩,
  fun i j => ⟨Int.le_refl _, Int.le_refl _⟩,
  fun i j => ⟨Int.le_refl _, Int.le_refl _⟩,
  fun i j => ⟨Int.le_refl _, Int.le_refl _⟩,
  fun i j => ⟨Int.le_refl _, Int.le_refl _⟩,
  fun i j => ⟨Int.le_refl _, Int.le_refl _⟩,
  fun i j => ⟨Int.le_refl _, Int.le_refl _⟩, trivial⟩
theorem zB_mono {c c' : Int} {m : wm} (h : zB c m) (hc : c ≤ c') : zB c' m := by
  refine ⟨fun k f hf i j => ?_, h.2⟩
  obtain ⟨f0, h0, h1⟩ := zle2_at (zbt_le hc) hf
  have h2 := h.1 k f0 h0 i j
  have h3 := h1 i j
  omega
theorem zRN {c : Int} {m : wm} (h : zB c m) (j : Nat) : 0 ≤ m.1 68 0 j ∧ m.1 68 0 j ≤ 255 ∧ (j % 7 = 0 → m.1 68 0 j ≤ 6) := by
  have h1 : (if j % 7 = 0 then ((0 : Int), (6 : Int)) else (0, 255)).1 ≤ m.1 68 0 j ∧ m.1 68 0 j ≤ (if j % 7 = 0 then ((0 : Int), (6 : Int)) else (0, 255)).2 := h.1 68 _ rfl 0 j
  by_cases hj : j % 7 = 0
  · rw [if_pos hj] at h1
    omega
  · rw [if_neg hj] at h1
    omega
theorem zRNw {j : Nat} {X : Int} (h : 0 ≤ X ∧ X ≤ 255 ∧ (j % 7 = 0 → X ≤ 6)) : ((fun _ j => if j % 7 = 0 then ((0 : Int), (6 : Int)) else (0, 255) : Nat → Nat → Int × Int) 0 j).1 ≤ X ∧ X ≤ ((fun _ j => if j % 7 = 0 then ((0 : Int), (6 : Int)) else (0, 255) : Nat → Nat → Int × Int) 0 j).2 := by
  show (if j % 7 = 0 then ((0 : Int), (6 : Int)) else (0, 255)).1 ≤ X ∧ X ≤ (if j % 7 = 0 then ((0 : Int), (6 : Int)) else (0, 255)).2
  by_cases hj : j % 7 = 0
  · rw [if_pos hj]
    omega
  · rw [if_neg hj]
    omega
theorem wand_rg (X Y : Int) : -2147483648 ≤ wand X Y ∧ wand X Y ≤ 2147483647 := ⟨by have := Int32.le_toInt (wi X &&& wi Y); unfold wand; omega, by have := Int32.toInt_lt (wi X &&& wi Y); unfold wand; omega⟩
theorem wor_rg (X Y : Int) : -2147483648 ≤ wor X Y ∧ wor X Y ≤ 2147483647 := ⟨by have := Int32.le_toInt (wi X ||| wi Y); unfold wor; omega, by have := Int32.toInt_lt (wi X ||| wi Y); unfold wor; omega⟩
theorem wxor_rg (X Y : Int) : -2147483648 ≤ wxor X Y ∧ wxor X Y ≤ 2147483647 := ⟨by have := Int32.le_toInt (wi X ^^^ wi Y); unfold wxor; omega, by have := Int32.toInt_lt (wi X ^^^ wi Y); unfold wxor; omega⟩
theorem wshl_rg (X Y : Int) : -2147483648 ≤ wshl X Y ∧ wshl X Y ≤ 2147483647 := ⟨by have := Int32.le_toInt (wi X <<< (wi Y &&& 31)); unfold wshl; omega, by have := Int32.toInt_lt (wi X <<< (wi Y &&& 31)); unfold wshl; omega⟩
theorem wshr_rg (X Y : Int) : -2147483648 ≤ wshr X Y ∧ wshr X Y ≤ 2147483647 := ⟨by have := Int32.le_toInt (wi X >>> (wi Y &&& 31)); unfold wshr; omega, by have := Int32.toInt_lt (wi X >>> (wi Y &&& 31)); unfold wshr; omega⟩
theorem wushr_rg (X Y : Int) : -2147483648 ≤ wushr X Y ∧ wushr X Y ≤ 2147483647 := ⟨by have := Int32.le_toInt ((wi X).toUInt32 >>> ((wi Y).toUInt32 &&& Int32.toUInt32 31)).toInt32; unfold wushr; omega, by have := Int32.toInt_lt ((wi X).toUInt32 >>> ((wi Y).toUInt32 &&& Int32.toUInt32 31)).toInt32; unfold wushr; omega⟩
theorem wl2i_rg (x : Int64) : -2147483648 ≤ wl2i x ∧ wl2i x ≤ 2147483647 := ⟨by have := Int32.le_toInt x.toInt32; unfold wl2i; omega, by have := Int32.toInt_lt x.toInt32; unfold wl2i; omega⟩
theorem wlcmp_rg (x y : Int64) : -1 ≤ wlcmp x y ∧ wlcmp x y ≤ 1 ∧ (wlcmp x y = 0 ↔ x = y) := by
  unfold wlcmp lg_cmp
  by_cases h1 : x > y
  · rw [if_pos h1]
    refine ⟨by decide, by decide, ?_⟩
    constructor
    · intro h; exact absurd h (by decide)
    · intro h; subst h; exact absurd h1 (by rw [gt_iff_lt, Int64.lt_iff_toInt_lt]; omega)
  · rw [if_neg h1]
    by_cases h2 : x = y
    · rw [if_pos h2]; exact ⟨by decide, by decide, ⟨fun _ => h2, fun _ => rfl⟩⟩
    · rw [if_neg h2]
      exact ⟨by decide, by decide, ⟨fun h => absurd h (by decide), fun h => absurd h h2⟩⟩
