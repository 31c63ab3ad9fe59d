/-! The state behind the constructors, in named memory. -/
def zinv : List (Nat × Nat) := [(0, 0), (1, 0), (2, 0), (1, 1), (2, 1), (3, 0), (4, 0), (5, 0), (6, 0), (7, 0), (8, 0), (9, 0), (1, 35), (2, 35), (1, 47), (2, 47), (1, 36), (2, 36), (1, 48), (2, 48), (1, 37), (2, 37), (1, 49), (2, 49), (1, 38), (2, 38), (1, 50), (2, 50), (1, 39), (2, 39), (1, 51), (2, 51), (1, 40), (2, 40), (1, 52), (2, 52), (10, 0), (11, 0), (1, 59), (2, 59), (1, 60), (2, 60), (1, 61), (2, 61), (1, 62), (2, 62), (1, 63), (2, 63), (1, 64), (2, 64), (1, 65), (2, 65), (10, 1), (11, 1), (1, 66), (2, 66), (1, 67), (2, 67), (1, 68), (2, 68), (1, 69), (2, 69), (1, 70), (2, 70), (1, 71), (2, 71), (1, 72), (2, 72), (10, 2), (11, 2), (1, 73), (2, 73), (1, 74), (2, 74), (1, 75), (2, 75), (1, 76), (2, 76), (1, 77), (2, 77), (1, 78), (2, 78), (1, 79), (2, 79), (6, 1), (7, 1), (8, 1), (9, 1), (1, 41), (2, 41), (1, 53), (2, 53), (1, 42), (2, 42), (1, 54), (2, 54), (1, 43), (2, 43), (1, 55), (2, 55), (1, 44), (2, 44), (1, 56), (2, 56), (1, 45), (2, 45), (1, 57), (2, 57), (1, 46), (2, 46), (1, 58), (2, 58), (10, 3), (11, 3), (1, 80), (2, 80), (1, 81), (2, 81), (1, 82), (2, 82), (1, 83), (2, 83), (1, 84), (2, 84), (1, 85), (2, 85), (1, 86), (2, 86), (10, 4), (11, 4), (1, 87), (2, 87), (1, 88), (2, 88), (1, 89), (2, 89), (1, 90), (2, 90), (1, 91), (2, 91), (1, 92), (2, 92), (1, 93), (2, 93), (10, 5), (11, 5), (1, 94), (2, 94), (1, 95), (2, 95), (1, 96), (2, 96), (1, 97), (2, 97), (1, 98), (2, 98), (1, 99), (2, 99), (1, 100), (2, 100), (12, 0), (13, 0), (14, 0), (15, 0), (16, 0), (17, 0), (18, 0), (1, 2), (2, 2), (19, 0), (20, 0), (21, 0), (22, 0), (23, 0), (24, 0), (25, 0), (26, 0), (27, 0), (28, 0), (29, 0), (30, 0), (31, 0), (32, 0), (33, 0), (1, 101), (2, 101), (1, 102), (2, 102), (1, 103), (2, 103), (1, 104), (2, 104), (1, 105), (2, 105), (1, 106), (2, 106), (1, 107), (2, 107), (26, 1), (27, 1), (28, 1), (29, 1), (30, 1), (31, 1), (32, 1), (33, 1), (1, 108), (2, 108), (1, 109), (2, 109), (1, 110), (2, 110), (1, 111), (2, 111), (1, 112), (2, 112), (1, 113), (2, 113), (1, 114), (2, 114), (26, 2), (27, 2), (28, 2), (29, 2), (30, 2), (31, 2), (32, 2), (33, 2), (1, 115), (2, 115), (1, 116), (2, 116), (1, 117), (2, 117), (1, 118), (2, 118), (1, 119), (2, 119), (1, 120), (2, 120), (1, 121), (2, 121), (26, 3), (27, 3), (28, 3), (29, 3), (30, 3), (31, 3), (32, 3), (33, 3), (1, 122), (2, 122), (1, 123), (2, 123), (1, 124), (2, 124), (1, 125), (2, 125), (1, 126), (2, 126), (1, 127), (2, 127), (1, 128), (2, 128), (26, 4), (27, 4), (28, 4), (29, 4), (30, 4), (31, 4), (32, 4), (33, 4), (1, 129), (2, 129), (1, 130), (2, 130), (1, 131), (2, 131), (1, 132), (2, 132), (1, 133), (2, 133), (1, 134), (2, 134), (1, 135), (2, 135), (26, 5), (27, 5), (28, 5), (29, 5), (30, 5), (31, 5), (32, 5), (33, 5), (1, 136), (2, 136), (1, 137), (2, 137), (1, 138), (2, 138), (1, 139), (2, 139), (1, 140), (2, 140), (1, 141), (2, 141), (1, 142), (2, 142), (26, 6), (27, 6), (28, 6), (29, 6), (30, 6), (31, 6), (32, 6), (33, 6), (1, 143), (2, 143), (1, 144), (2, 144), (1, 145), (2, 145), (1, 146), (2, 146), (1, 147), (2, 147), (1, 148), (2, 148), (1, 149), (2, 149), (26, 7), (27, 7), (28, 7), (29, 7), (30, 7), (31, 7), (32, 7), (33, 7), (1, 150), (2, 150), (1, 151), (2, 151), (1, 152), (2, 152), (1, 153), (2, 153), (1, 154), (2, 154), (1, 155), (2, 155), (1, 156), (2, 156), (26, 8), (27, 8), (28, 8), (29, 8), (30, 8), (31, 8), (32, 8), (33, 8), (1, 157), (2, 157), (1, 158), (2, 158), (1, 159), (2, 159), (1, 160), (2, 160), (1, 161), (2, 161), (1, 162), (2, 162), (1, 163), (2, 163), (26, 9), (27, 9), (28, 9), (29, 9), (30, 9), (31, 9), (32, 9), (33, 9), (1, 164), (2, 164), (1, 165), (2, 165), (1, 166), (2, 166), (1, 167), (2, 167), (1, 168), (2, 168), (1, 169), (2, 169), (1, 170), (2, 170), (1, 3), (2, 3), (1, 4), (2, 4), (1, 5), (2, 5), (1, 6), (2, 6), (1, 7), (2, 7), (1, 8), (2, 8), (1, 9), (2, 9), (1, 10), (2, 10), (1, 11), (2, 11), (1, 12), (2, 12), (1, 13), (2, 13), (1, 14), (2, 14), (1, 15), (2, 15), (1, 16), (2, 16), (1, 17), (2, 17), (1, 18), (2, 18), (1, 19), (2, 19), (1, 20), (2, 20), (1, 21), (2, 21), (1, 22), (2, 22), (1, 23), (2, 23), (1, 24), (2, 24), (1, 25), (2, 25), (1, 26), (2, 26), (1, 27), (2, 27), (1, 28), (2, 28), (1, 29), (2, 29), (1, 30), (2, 30), (1, 31), (2, 31), (1, 32), (2, 32), (1, 33), (2, 33), (1, 34), (2, 34), (34, 0), (35, 0), (36, 0), (37, 0), (38, 0), (39, 0), (40, 0), (41, 0), (42, 0), (43, 0), (44, 0), (45, 0), (46, 0), (47, 0), (48, 0), (49, 0), (50, 0), (51, 0), (52, 0), (53, 0), (54, 0), (55, 0), (56, 0), (57, 0), (58, 0), (59, 0), (60, 0), (61, 0), (62, 0), (63, 0), (64, 0), (65, 0), (66, 0), (67, 0), (68, 0), (69, 0), (70, 0), (71, 0), (72, 0), (73, 0)]
def zm0 : wm := (fun k i j => if k = 3 then (if j = 2 then 1 else 0) else if k = 13 then (if j = 2 then 96 else if j = 3 then 6 else 0) else if k = 34 then (if j = 14 then 1 else if j = 36 then -1 else if j = 37 then -1 else 0) else if k = 54 then (if j < 56 then -1 else 0) else 0,
  fun _ _ _ => 0, fun k i j => if k = 7 then 35 + 6 * i + j else if k = 8 then 47 + 6 * i + j else 0)
def zbd : List (Nat → Nat → Int × Int) → Nat → Prop
  | [], _ => True
  | f :: l, k => (∀ i j, (f i j).1 ≤ zm0.1 k i j ∧ zm0.1 k i j ≤ (f i j).2) ∧ zbd l (k + 1)
theorem zbd_at : ∀ {l : List (Nat → Nat → Int × Int)} {k0 k : Nat} {f : Nat → Nat → Int × Int}, zbd l k0 → l[k]? = some f → ∀ i j, (f i j).1 ≤ zm0.1 (k0 + k) i j ∧ zm0.1 (k0 + k) i j ≤ (f i j).2 := by
  intro l
  induction l with
  | nil => intro k0 k f _ hf; cases hf
  | cons g l ih =>
    intro k0 k f h hf
    cases k with
    | zero => cases hf; exact h.1
    | succ k => rw [show k0 + (k + 1) = k0 + 1 + k by omega]; exact ih h.2 hf
theorem zm0_0 {k i j : Nat} (h : k ≠ 3) (h1 : k ≠ 13) (h2 : k ≠ 34) (h3 : k ≠ 54) : zm0.1 k i j = 0 := by
  show (if k = 3 then _ else _) = (0 : Int)
  rw [if_neg h, if_neg h1, if_neg h2, if_neg h3]
theorem zbd_ok : zbd (zbt 0) 0 :=
  ⟨fun i j => by
    rw [zm0_0 (by decide) (by decide) (by decide) (by decide)]
    by_cases h7 : j = 7
    · subst h7; show (0 : Int) ≤ 0 ∧ (0 : Int) ≤ 0; exact ⟨by decide, by decide⟩
    dsimp only
    rw [if_neg h7]
    exact ⟨by decide, by decide⟩,
  fun i j => by
    rw [zm0_0 (by decide) (by decide) (by decide) (by decide)]
    by_cases h1 : j = 1
    · subst h1; show (0 : Int) ≤ 0 ∧ (0 : Int) ≤ ((zlim i : Nat) : Int); exact ⟨by decide, Int.natCast_nonneg _⟩
    dsimp only
    rw [if_neg h1]
    exact ⟨by decide, by decide⟩,
  fun i j => by rw [zm0_0 (by decide) (by decide) (by decide) (by decide)]; show (0 : Int) ≤ 0 ∧ (0 : Int) ≤ 255; exact ⟨by decide, by decide⟩,
  fun i j => by
    rw [show zm0.1 3 i j = (if j = 2 then 1 else 0 : Int) from rfl]
    by_cases h2 : j = 2
    · subst h2; show (1 : Int) ≤ 1 ∧ (1 : Int) ≤ 255; exact ⟨by decide, by decide⟩
    by_cases h3 : j = 3
    · subst h3; show (0 : Int) ≤ 0 ∧ (0 : Int) ≤ 3; exact ⟨by decide, by decide⟩
    dsimp only
    rw [if_neg h2, if_neg h3]
    rw [if_neg h2]
    exact ⟨by decide, by decide⟩,
  fun i j => by rw [zm0_0 (by decide) (by decide) (by decide) (by decide)]; show ((-2147483648) : Int) ≤ 0 ∧ (0 : Int) ≤ 2147483647; exact ⟨by decide, by decide⟩,
  fun i j => by rw [zm0_0 (by decide) (by decide) (by decide) (by decide)]; show (0 : Int) ≤ 0 ∧ (0 : Int) ≤ 1000; exact ⟨by decide, by decide⟩,
  fun i j => by
    rw [zm0_0 (by decide) (by decide) (by decide) (by decide)]
    by_cases h3 : j = 3
    · subst h3; show (0 : Int) ≤ 0 ∧ (0 : Int) ≤ 6; exact ⟨by decide, by decide⟩
    by_cases h4 : j = 4
    · subst h4; show (0 : Int) ≤ 0 ∧ (0 : Int) ≤ 1000; exact ⟨by decide, by decide⟩
    dsimp only
    rw [if_neg h3, if_neg h4]
    exact ⟨by decide, by decide⟩,
  fun i j => by rw [zm0_0 (by decide) (by decide) (by decide) (by decide)]; show ((-2147483648) : Int) ≤ 0 ∧ (0 : Int) ≤ 2147483647; exact ⟨by decide, by decide⟩,
  fun i j => by rw [zm0_0 (by decide) (by decide) (by decide) (by decide)]; show ((-2147483648) : Int) ≤ 0 ∧ (0 : Int) ≤ 2147483647; exact ⟨by decide, by decide⟩,
  fun i j => by rw [zm0_0 (by decide) (by decide) (by decide) (by decide)]; show ((-2147483648) : Int) ≤ 0 ∧ (0 : Int) ≤ 2147483647; exact ⟨by decide, by decide⟩,
  fun i j => by
    rw [zm0_0 (by decide) (by decide) (by decide) (by decide)]
    by_cases h1 : j = 1
    · subst h1; show (0 : Int) ≤ 0 ∧ (0 : Int) ≤ 1000; exact ⟨by decide, by decide⟩
    by_cases h2 : j = 2
    · subst h2; show (0 : Int) ≤ 0 ∧ (0 : Int) ≤ 7; exact ⟨by decide, by decide⟩
    dsimp only
    rw [if_neg h1, if_neg h2]
    exact ⟨by decide, by decide⟩,
  fun i j => by rw [zm0_0 (by decide) (by decide) (by decide) (by decide)]; show ((-2147483648) : Int) ≤ 0 ∧ (0 : Int) ≤ 2147483647; exact ⟨by decide, by decide⟩,
  fun i j => by rw [zm0_0 (by decide) (by decide) (by decide) (by decide)]; show ((-2147483648) : Int) ≤ 0 ∧ (0 : Int) ≤ 2147483647; exact ⟨by decide, by decide⟩,
  fun i j => by
    rw [show zm0.1 13 i j = (if j = 2 then 96 else if j = 3 then 6 else 0 : Int) from rfl]
    by_cases h2 : j = 2
    · subst h2; show (0 : Int) ≤ 96 ∧ (96 : Int) ≤ 96; exact ⟨by decide, by decide⟩
    by_cases h3 : j = 3
    · subst h3; show (0 : Int) ≤ 6 ∧ (6 : Int) ≤ 6; exact ⟨by decide, by decide⟩
    dsimp only
    rw [if_neg h2, if_neg h3]
    rw [if_neg h2, if_neg h3]
    exact ⟨by decide, by decide⟩,
  fun i j => by rw [zm0_0 (by decide) (by decide) (by decide) (by decide)]; show (0 : Int) ≤ 0 ∧ (0 : Int) ≤ 1; exact ⟨by decide, by decide⟩,
  fun i j => by rw [zm0_0 (by decide) (by decide) (by decide) (by decide)]; show (0 : Int) ≤ 0 ∧ (0 : Int) ≤ 1; exact ⟨by decide, by decide⟩,
  fun i j => by
    rw [zm0_0 (by decide) (by decide) (by decide) (by decide)]
    by_cases h3 : j = 3
    · subst h3; show (0 : Int) ≤ 0 ∧ (0 : Int) ≤ 0; exact ⟨by decide, by decide⟩
    dsimp only
    rw [if_neg h3]
    exact ⟨by decide, by decide⟩,
  fun i j => by rw [zm0_0 (by decide) (by decide) (by decide) (by decide)]; show (0 : Int) ≤ 0 ∧ (0 : Int) ≤ 65535; exact ⟨by decide, by decide⟩,
  fun i j => by rw [zm0_0 (by decide) (by decide) (by decide) (by decide)]; show ((-2147483648) : Int) ≤ 0 ∧ (0 : Int) ≤ 2147483647; exact ⟨by decide, by decide⟩,
  fun i j => by
    rw [zm0_0 (by decide) (by decide) (by decide) (by decide)]
    by_cases h5 : j = 5
    · subst h5; show (0 : Int) ≤ 0 ∧ (0 : Int) ≤ 255; exact ⟨by decide, by decide⟩
    by_cases h6 : j = 6
    · subst h6; show (0 : Int) ≤ 0 ∧ (0 : Int) ≤ 0; exact ⟨by decide, by decide⟩
    dsimp only
    rw [if_neg h5, if_neg h6]
    exact ⟨by decide, by decide⟩,
  fun i j => by rw [zm0_0 (by decide) (by decide) (by decide) (by decide)]; show ((-2147483648) : Int) ≤ 0 ∧ (0 : Int) ≤ 2147483647; exact ⟨by decide, by decide⟩,
  fun i j => by rw [zm0_0 (by decide) (by decide) (by decide) (by decide)]; show ((-2147483648) : Int) ≤ 0 ∧ (0 : Int) ≤ 2147483647; exact ⟨by decide, by decide⟩,
  fun i j => by
    rw [zm0_0 (by decide) (by decide) (by decide) (by decide)]
    by_cases h3 : j = 3
    · subst h3; show (0 : Int) ≤ 0 ∧ (0 : Int) ≤ 24; exact ⟨by decide, by decide⟩
    dsimp only
    rw [if_neg h3]
    exact ⟨by decide, by decide⟩,
  fun i j => by rw [zm0_0 (by decide) (by decide) (by decide) (by decide)]; show (0 : Int) ≤ 0 ∧ (0 : Int) ≤ 4000000; exact ⟨by decide, by decide⟩,
  fun i j => by rw [zm0_0 (by decide) (by decide) (by decide) (by decide)]; show ((-2147483648) : Int) ≤ 0 ∧ (0 : Int) ≤ 2147483647; exact ⟨by decide, by decide⟩,
  fun i j => by rw [zm0_0 (by decide) (by decide) (by decide) (by decide)]; show ((-2147483648) : Int) ≤ 0 ∧ (0 : Int) ≤ 2147483647; exact ⟨by decide, by decide⟩,
  fun i j => by
    rw [zm0_0 (by decide) (by decide) (by decide) (by decide)]
    by_cases h7 : j = 7
    · subst h7; show (0 : Int) ≤ 0 ∧ (0 : Int) ≤ 65535; exact ⟨by decide, by decide⟩
    by_cases h8 : j = 8
    · subst h8; show (0 : Int) ≤ 0 ∧ (0 : Int) ≤ 5; exact ⟨by decide, by decide⟩
    by_cases h9 : j = 9
    · subst h9; show (0 : Int) ≤ 0 ∧ (0 : Int) ≤ 6; exact ⟨by decide, by decide⟩
    by_cases h10 : j = 10
    · subst h10; show (0 : Int) ≤ 0 ∧ (0 : Int) ≤ 1; exact ⟨by decide, by decide⟩
    dsimp only
    rw [if_neg h7, if_neg h8, if_neg h9, if_neg h10]
    exact ⟨by decide, by decide⟩,
  fun i j => by rw [zm0_0 (by decide) (by decide) (by decide) (by decide)]; show ((-2147483648) : Int) ≤ 0 ∧ (0 : Int) ≤ 2147483647; exact ⟨by decide, by decide⟩,
  fun i j => by rw [zm0_0 (by decide) (by decide) (by decide) (by decide)]; show (0 : Int) ≤ 0 ∧ (0 : Int) ≤ 1; exact ⟨by decide, by decide⟩,
  fun i j => by rw [zm0_0 (by decide) (by decide) (by decide) (by decide)]; show (0 : Int) ≤ 0 ∧ (0 : Int) ≤ 1; exact ⟨by decide, by decide⟩,
  fun i j => by rw [zm0_0 (by decide) (by decide) (by decide) (by decide)]; show (0 : Int) ≤ 0 ∧ (0 : Int) ≤ 10000; exact ⟨by decide, by decide⟩,
  fun i j => by rw [zm0_0 (by decide) (by decide) (by decide) (by decide)]; show (0 : Int) ≤ 0 ∧ (0 : Int) ≤ 255; exact ⟨by decide, by decide⟩,
  fun i j => by rw [zm0_0 (by decide) (by decide) (by decide) (by decide)]; show (0 : Int) ≤ 0 ∧ (0 : Int) ≤ 255; exact ⟨by decide, by decide⟩,
  fun i j => by rw [zm0_0 (by decide) (by decide) (by decide) (by decide)]; show ((-2147483648) : Int) ≤ 0 ∧ (0 : Int) ≤ 2147483647; exact ⟨by decide, by decide⟩,
  fun i j => by
    rw [show zm0.1 34 i j = (if j = 14 then 1 else if j = 36 then -1 else if j = 37 then -1 else 0 : Int) from rfl]
    by_cases h0 : j = 0
    · subst h0; show (0 : Int) ≤ 0 ∧ (0 : Int) ≤ 2; exact ⟨by decide, by decide⟩
    by_cases h1 : j = 1
    · subst h1; show (0 : Int) ≤ 0 ∧ (0 : Int) ≤ 6; exact ⟨by decide, by decide⟩
    by_cases h2 : j = 2
    · subst h2; show (0 : Int) ≤ 0 ∧ (0 : Int) ≤ 96; exact ⟨by decide, by decide⟩
    by_cases h14 : j = 14
    · subst h14; show (1 : Int) ≤ 1 ∧ (1 : Int) ≤ 255; exact ⟨by decide, by decide⟩
    by_cases h15 : j = 15
    · subst h15; show (0 : Int) ≤ 0 ∧ (0 : Int) ≤ 0; exact ⟨by decide, by decide⟩
    by_cases h16 : j = 16
    · subst h16; show (0 : Int) ≤ 0 ∧ (0 : Int) ≤ 0; exact ⟨by decide, by decide⟩
    by_cases h21 : j = 21
    · subst h21; show (0 : Int) ≤ 0 ∧ (0 : Int) ≤ 255; exact ⟨by decide, by decide⟩
    by_cases h30 : j = 30
    · subst h30; show (0 : Int) ≤ 0 ∧ (0 : Int) ≤ 24; exact ⟨by decide, by decide⟩
    by_cases h35 : j = 35
    · subst h35; show (0 : Int) ≤ 0 ∧ (0 : Int) ≤ 0; exact ⟨by decide, by decide⟩
    by_cases h36 : j = 36
    · subst h36; show ((-1) : Int) ≤ (-1) ∧ ((-1) : Int) ≤ 96; exact ⟨by decide, by decide⟩
    by_cases h37 : j = 37
    · subst h37; show ((-1) : Int) ≤ (-1) ∧ ((-1) : Int) ≤ 6; exact ⟨by decide, by decide⟩
    by_cases h47 : j = 47
    · subst h47; show (0 : Int) ≤ 0 ∧ (0 : Int) ≤ 0; exact ⟨by decide, by decide⟩
    dsimp only
    rw [if_neg h0, if_neg h1, if_neg h2, if_neg h14, if_neg h15, if_neg h16, if_neg h21, if_neg h30, if_neg h35, if_neg h36, if_neg h37, if_neg h47]
    rw [if_neg h14, if_neg h36, if_neg h37]
    exact ⟨by decide, by decide⟩,
  fun i j => by rw [zm0_0 (by decide) (by decide) (by decide) (by decide)]; show (0 : Int) ≤ 0 ∧ (0 : Int) ≤ 255; exact ⟨by decide, by decide⟩,
  fun i j => by rw [zm0_0 (by decide) (by decide) (by decide) (by decide)]; show (0 : Int) ≤ 0 ∧ (0 : Int) ≤ 255; exact ⟨by decide, by decide⟩,
  fun i j => by rw [zm0_0 (by decide) (by decide) (by decide) (by decide)]; show (0 : Int) ≤ 0 ∧ (0 : Int) ≤ 6; exact ⟨by decide, by decide⟩,
  fun i j => by rw [zm0_0 (by decide) (by decide) (by decide) (by decide)]; show (0 : Int) ≤ 0 ∧ (0 : Int) ≤ 6; exact ⟨by decide, by decide⟩,
  fun i j => by rw [zm0_0 (by decide) (by decide) (by decide) (by decide)]; show (0 : Int) ≤ 0 ∧ (0 : Int) ≤ 255; exact ⟨by decide, by decide⟩,
  fun i j => by rw [zm0_0 (by decide) (by decide) (by decide) (by decide)]; show (0 : Int) ≤ 0 ∧ (0 : Int) ≤ 96; exact ⟨by decide, by decide⟩,
  fun i j => by rw [zm0_0 (by decide) (by decide) (by decide) (by decide)]; show (0 : Int) ≤ 0 ∧ (0 : Int) ≤ 255; exact ⟨by decide, by decide⟩,
  fun i j => by rw [zm0_0 (by decide) (by decide) (by decide) (by decide)]; show (0 : Int) ≤ 0 ∧ (0 : Int) ≤ 1000; exact ⟨by decide, by decide⟩,
  fun i j => by rw [zm0_0 (by decide) (by decide) (by decide) (by decide)]; show (0 : Int) ≤ 0 ∧ (0 : Int) ≤ 7; exact ⟨by decide, by decide⟩,
  fun i j => by rw [zm0_0 (by decide) (by decide) (by decide) (by decide)]; show (0 : Int) ≤ 0 ∧ (0 : Int) ≤ 104; exact ⟨by decide, by decide⟩,
  fun i j => by rw [zm0_0 (by decide) (by decide) (by decide) (by decide)]; show (0 : Int) ≤ 0 ∧ (0 : Int) ≤ 255; exact ⟨by decide, by decide⟩,
  fun i j => by rw [zm0_0 (by decide) (by decide) (by decide) (by decide)]; show (0 : Int) ≤ 0 ∧ (0 : Int) ≤ 0; exact ⟨by decide, by decide⟩,
  fun i j => by rw [zm0_0 (by decide) (by decide) (by decide) (by decide)]; show (0 : Int) ≤ 0 ∧ (0 : Int) ≤ 255; exact ⟨by decide, by decide⟩,
  fun i j => by rw [zm0_0 (by decide) (by decide) (by decide) (by decide)]; show (0 : Int) ≤ 0 ∧ (0 : Int) ≤ 1; exact ⟨by decide, by decide⟩,
  fun i j => by
    rw [zm0_0 (by decide) (by decide) (by decide) (by decide)]
    by_cases h0 : j = 0
    · subst h0; show (0 : Int) ≤ 0 ∧ (0 : Int) ≤ 1; exact ⟨by decide, by decide⟩
    by_cases h1 : j = 1
    · subst h1; show (0 : Int) ≤ 0 ∧ (0 : Int) ≤ 1000; exact ⟨by decide, by decide⟩
    by_cases h2 : j = 2
    · subst h2; show (0 : Int) ≤ 0 ∧ (0 : Int) ≤ 6; exact ⟨by decide, by decide⟩
    by_cases h3 : j = 3
    · subst h3; show (0 : Int) ≤ 0 ∧ (0 : Int) ≤ 1; exact ⟨by decide, by decide⟩
    by_cases h4 : j = 4
    · subst h4; show (0 : Int) ≤ 0 ∧ (0 : Int) ≤ 31; exact ⟨by decide, by decide⟩
    dsimp only
    rw [if_neg h0, if_neg h1, if_neg h2, if_neg h3, if_neg h4]
    exact ⟨by decide, by decide⟩,
  fun i j => by rw [zm0_0 (by decide) (by decide) (by decide) (by decide)]; show (0 : Int) ≤ 0 ∧ (0 : Int) ≤ 65535; exact ⟨by decide, by decide⟩,
  fun i j => by rw [zm0_0 (by decide) (by decide) (by decide) (by decide)]; show (0 : Int) ≤ 0 ∧ (0 : Int) ≤ 1; exact ⟨by decide, by decide⟩,
  fun i j => by rw [zm0_0 (by decide) (by decide) (by decide) (by decide)]; show (0 : Int) ≤ 0 ∧ (0 : Int) ≤ 6; exact ⟨by decide, by decide⟩,
  fun i j => by rw [zm0_0 (by decide) (by decide) (by decide) (by decide)]; show (0 : Int) ≤ 0 ∧ (0 : Int) ≤ 2; exact ⟨by decide, by decide⟩,
  fun i j => by show (-1 : Int) ≤ (if j < 56 then -1 else 0) ∧ (if j < 56 then -1 else (0 : Int)) ≤ 104; split <;> exact ⟨by decide, by decide⟩,
  fun i j => by rw [zm0_0 (by decide) (by decide) (by decide) (by decide)]; show (0 : Int) ≤ 0 ∧ (0 : Int) ≤ 1; exact ⟨by decide, by decide⟩,
  fun i j => by rw [zm0_0 (by decide) (by decide) (by decide) (by decide)]; show (0 : Int) ≤ 0 ∧ (0 : Int) ≤ 255; exact ⟨by decide, by decide⟩,
  fun i j => by rw [zm0_0 (by decide) (by decide) (by decide) (by decide)]; show (0 : Int) ≤ 0 ∧ (0 : Int) ≤ 1; exact ⟨by decide, by decide⟩,
  fun i j => by rw [zm0_0 (by decide) (by decide) (by decide) (by decide)]; show (0 : Int) ≤ 0 ∧ (0 : Int) ≤ 55; exact ⟨by decide, by decide⟩,
  fun i j => by rw [zm0_0 (by decide) (by decide) (by decide) (by decide)]; show (0 : Int) ≤ 0 ∧ (0 : Int) ≤ 1; exact ⟨by decide, by decide⟩,
  fun i j => by rw [zm0_0 (by decide) (by decide) (by decide) (by decide)]; show ((-2147483648) : Int) ≤ 0 ∧ (0 : Int) ≤ 2147483647; exact ⟨by decide, by decide⟩,
  fun i j => by rw [zm0_0 (by decide) (by decide) (by decide) (by decide)]; show ((-2147483648) : Int) ≤ 0 ∧ (0 : Int) ≤ 2147483647; exact ⟨by decide, by decide⟩,
  fun i j => by rw [zm0_0 (by decide) (by decide) (by decide) (by decide)]; show (0 : Int) ≤ 0 ∧ (0 : Int) ≤ 1; exact ⟨by decide, by decide⟩,
  fun i j => by rw [zm0_0 (by decide) (by decide) (by decide) (by decide)]; show (0 : Int) ≤ 0 ∧ (0 : Int) ≤ 1; exact ⟨by decide, by decide⟩,
  fun i j => by rw [zm0_0 (by decide) (by decide) (by decide) (by decide)]; show (0 : Int) ≤ 0 ∧ (0 : Int) ≤ 65535; exact ⟨by decide, by decide⟩,
  fun i j => by rw [zm0_0 (by decide) (by decide) (by decide) (by decide)]; show (0 : Int) ≤ 0 ∧ (0 : Int) ≤ 0; exact ⟨by decide, by decide⟩,
  fun i j => by rw [zm0_0 (by decide) (by decide) (by decide) (by decide)]; show (0 : Int) ≤ 0 ∧ (0 : Int) ≤ 65535; exact ⟨by decide, by decide⟩,
  fun i j => by rw [zm0_0 (by decide) (by decide) (by decide) (by decide)]; show (0 : Int) ≤ 0 ∧ (0 : Int) ≤ 6; exact ⟨by decide, by decide⟩,
  fun i j => by rw [zm0_0 (by decide) (by decide) (by decide) (by decide)]; dsimp only; split <;> exact ⟨by decide, by decide⟩,
  fun i j => by rw [zm0_0 (by decide) (by decide) (by decide) (by decide)]; show (0 : Int) ≤ 0 ∧ (0 : Int) ≤ 96; exact ⟨by decide, by decide⟩,
  fun i j => by rw [zm0_0 (by decide) (by decide) (by decide) (by decide)]; show (0 : Int) ≤ 0 ∧ (0 : Int) ≤ 255; exact ⟨by decide, by decide⟩,
  fun i j => by rw [zm0_0 (by decide) (by decide) (by decide) (by decide)]; show (0 : Int) ≤ 0 ∧ (0 : Int) ≤ 65535; exact ⟨by decide, by decide⟩,
  fun i j => by rw [zm0_0 (by decide) (by decide) (by decide) (by decide)]; show ((-2147483648) : Int) ≤ 0 ∧ (0 : Int) ≤ 2147483647; exact ⟨by decide, by decide⟩,
  fun i j => by rw [zm0_0 (by decide) (by decide) (by decide) (by decide)]; show ((-2147483648) : Int) ≤ 0 ∧ (0 : Int) ≤ 2147483647; exact ⟨by decide, by decide⟩, trivial⟩
theorem zm0_B : zB 0 zm0 := by
  refine ⟨fun k f hf i j => ?_, fun f j hf hj => ?_⟩
  · have h := zbd_at zbd_ok hf i j
    rw [Nat.zero_add] at h
    exact h
  · show 35 + 6 * f ≤ 35 + 6 * f + j ∧ 35 + 6 * f + j < 41 + 6 * f ∧ 47 + 6 * f ≤ 47 + 6 * f + j ∧ 47 + 6 * f + j < 53 + 6 * f
    omega
/-- the literal heap is named memory -/
def zkv : aV → wv → Bool
  | .inl (.int x), .inl X => x == wi X
  | .inl (.long x), .inr (.inl y) => x == y
  | .inl (.ref a), .inr (.inr (.inl (some q))) => a == zad q.1 q.2
  | _, _ => false
def zkl : List aV → List wv → Bool
  | [], [] => true
  | a :: l, w :: r => zkv a w && zkl l r
  | _, _ => false
def zkz : aV → Bool
  | .inl (.int x) => x == 0
  | _ => false
def zky : aV → Bool
  | .inl (.long x) => x == 0
  | _ => false
def zkn : aV → Bool
  | .inl .null => true
  | _ => false
def zkr (a : aV) (b : Nat) : Bool := match a with
  | .inl (.ref x) => x == b
  | _ => false
def zkc (k i : Nat) : aC → ((Nat × List wfk) ⊕ (Nat × (Nat → Nat) × String × Nat × (Nat → Nat → Nat))) → Bool
  | .inr (some (ci, as)), .inl (c, fs) => ci == c && zkl as (wfs zm0 k i 0 fs)
  | .inl (.int, n, d, us), .inr (0, len, _) => n == len i && (if k = 54 then zkz d && us.all (fun q => decide (q.1 < 56)) && (List.range 56).all (fun j => zkv (aLk d us j) (.inl (-1))) else k != 3 && k != 13 && k != 34 && zkz d && us.isEmpty)
  | .inl (.boolean, n, d, us), .inr (1, len, _) => n == len i && (k != 3 && k != 13 && k != 34 && k != 54 && zkz d && us.isEmpty)
  | .inl (.long, n, d, us), .inr (2, len, _) => n == len i && zky d && us.isEmpty
  | .inl (.object C, n, d, us), .inr (3, len, C', k', f) => n == len i && C == C' && zkn d && us.all (fun q => decide (q.1 < n)) && (List.range n).all (fun j => zkr (aLk d us j) (zad k' (f i j)))
  | .inl (.object C, n, d, us), .inr (4, len, C', k', _) => n == len i && C == C' && zkn d && us.all (fun q => decide (q.1 < n)) && (List.range n).all (fun j => zkr (aLk d us j) (zad k' (zm0.2.2 k i j)))
  | _, _ => false
section ZKC
variable {ρ : Nat → Int32} {sc : xSc}
theorem zkv_ok {a : aV} {w : wv} {v : Value} (h : zkv a w = true) (hv : aG ρ a v) : v = wcv (zK sc) w := by
  unfold zkv at h
  split at h
  · rename_i x X
    have h : x = wi X := by simpa using h
    rw [show v = .int x from hv, h]
    rfl
  · rename_i x y
    have h : x = y := by simpa using h
    rw [show v = .long x from hv, h]
    rfl
  · rename_i x q
    have h : x = zad q.1 q.2 := by simpa using h
    rw [show v = .ref x from hv, h]
    rfl
  · cases h
theorem zkl_ok : ∀ {as : List aV} {ws : List wv} {vs : List Value}, zkl as ws = true → aGs ρ as vs → vs = ws.map (wcv (zK sc)) := by
  intro as
  induction as with
  | nil => intro ws vs h hv; cases ws with
    | nil => cases vs with
      | nil => rfl
      | cons v vs => exact hv.elim
    | cons w ws => cases h
  | cons a as ih => intro ws vs h hv; cases ws with
    | nil => cases h
    | cons w ws => cases vs with
      | nil => exact hv.elim
      | cons v vs =>
        unfold zkl at h
        rw [Bool.and_eq_true] at h
        rw [zkv_ok (sc := sc) h.1 hv.1, ih h.2 hv.2]
        rfl
theorem zkz_ok {a : aV} {x : Int32} (h : zkz a = true) (hv : aG ρ a (.int x)) : x = 0 := by
  unfold zkz at h
  split at h
  · rename_i y
    have h : y = 0 := by simpa using h
    have hv : Value.int x = .int y := hv
    cases hv
    exact h
  · cases h
theorem zky_ok {a : aV} {x : Int64} (h : zky a = true) (hv : aG ρ a (.long x)) : x = 0 := by
  unfold zky at h
  split at h
  · rename_i y
    have h : y = 0 := by simpa using h
    have hv : Value.long x = .long y := hv
    cases hv
    exact h
  · cases h
theorem zkn_ok {a : aV} {x : Option Nat} (h : zkn a = true) (hv : aG ρ a (va_rf x)) : x = none := by
  unfold zkn at h
  split at h
  · have hv : va_rf x = .null := hv
    cases x with
    | none => rfl
    | some a => cases hv
  · cases h
theorem zkr_ok {a : aV} {x : Option Nat} {b : Nat} (h : zkr a b = true) (hv : aG ρ a (va_rf x)) : x = some b := by
  unfold zkr at h
  split at h
  · rename_i y
    have h : y = b := by simpa using h
    have hv : va_rf x = .ref y := hv
    cases x with
    | none => cases hv
    | some a => cases hv; rw [h]
  · cases h
theorem aLk_out {d : aV} : ∀ {us : List (Nat × aV)} {n j : Nat}, us.all (fun q => decide (q.1 < n)) = true → n ≤ j → aLk d us j = d := by
  intro us
  induction us with
  | nil => intro n j _ _; rfl
  | cons q r ih =>
    intro n j h hj
    rw [List.all_cons, Bool.and_eq_true, decide_eq_true_eq] at h
    unfold aLk
    rw [if_neg (by omega)]
    exact ih h.2 hj
theorem zkf {us : List (Nat × aV)} {d : aV} (h : us.isEmpty = true) (j : Nat) : aLk d us j = d := by
  cases us with
  | nil => rfl
  | cons q r => cases h
theorem zkc_ok {k i : Nat} {ca : aC} {s : (Nat × List wfk) ⊕ (Nat × (Nat → Nat) × String × Nat × (Nat → Nat → Nat))} {c : xC} (h : zkc k i ca s = true) (hc : aGc ρ ca c) : c = wcell (zK sc) zm0 k i s := by
  unfold zkc at h
  split at h
  · rename_i ci as c9 fs
    rw [Bool.and_eq_true] at h
    obtain ⟨vs, rfl, hv⟩ := hc
    have h1 : ci = c9 := by simpa using h.1
    rw [h1, zkl_ok (sc := sc) h.2 hv]
    rfl
  · rename_i n d us len _
    rw [Bool.and_eq_true] at h
    obtain ⟨f, rfl, hf⟩ := hc
    have h1 : n = len i := by simpa using h.1
    have h2 := h.2
    have hh : f = fun j => wi (zm0.1 k i j) := by
      funext j
      have hj := hf j trivial
      split at h2
      · rename_i hk
        rw [Bool.and_eq_true, Bool.and_eq_true] at h2
        subst hk
        show f j = wi (if j < 56 then -1 else 0)
        by_cases hq : j < 56
        · rw [if_pos hq]
          have := zkv_ok (sc := sc) (List.all_eq_true.mp h2.2 j (List.mem_range.mpr hq)) hj
          have this : Value.int (f j) = .int (wi (-1)) := this
          exact Value.int.inj this
        · rw [if_neg hq]
          rw [aLk_out h2.1.2 (by omega)] at hj
          rw [zkz_ok h2.1.1 hj]
          rfl
      · rename_i hk
        simp only [Bool.and_eq_true, bne_iff_ne] at h2
        obtain ⟨⟨⟨⟨a1, a2⟩, a3⟩, a4⟩, a5⟩ := h2
        rw [zm0_0 a1 a2 a3 hk]
        rw [zkf a5] at hj
        rw [zkz_ok a4 hj]
        rfl
    rw [h1, hh]
    rfl
  · rename_i n d us len _
    rw [Bool.and_eq_true] at h
    obtain ⟨f, rfl, hf⟩ := hc
    have h1 : n = len i := by simpa using h.1
    have h2 := h.2
    have hh : f = fun j => wi (zm0.1 k i j) := by
      funext j
      have hj := hf j trivial
      simp only [Bool.and_eq_true, bne_iff_ne] at h2
      obtain ⟨⟨⟨⟨⟨a1, a2⟩, a3⟩, a6⟩, a4⟩, a5⟩ := h2
      rw [zm0_0 a1 a2 a3 a6]
      rw [zkf a5] at hj
      rw [zkz_ok a4 hj]
      rfl
    rw [h1, hh]
    rfl
  · rename_i n d us len _
    simp only [Bool.and_eq_true] at h
    obtain ⟨f, rfl, hf⟩ := hc
    have h1 : n = len i := by simpa using h.1.1
    have hh : f = fun j => 0 := by
      funext j
      have hj := hf j trivial
      rw [zkf h.2] at hj
      exact zky_ok h.1.2 hj
    rw [h1, hh]
    rfl
  · rename_i C n d us len C9 k9 f9
    simp only [Bool.and_eq_true] at h
    obtain ⟨⟨⟨⟨a1, a2⟩, a3⟩, a4⟩, a5⟩ := h
    obtain ⟨f, rfl, hf⟩ := hc
    have h1 : n = len i := by simpa using a1
    have h2 : C = C9 := by simpa using a2
    have hh : f = fun j => if j < len i then some (zad k9 (f9 i j)) else none := by
      funext j
      have hj := hf j trivial
      by_cases hq : j < len i
      · rw [if_pos hq]
        exact zkr_ok (List.all_eq_true.mp a5 j (List.mem_range.mpr (by omega))) hj
      · rw [if_neg hq]
        rw [aLk_out a4 (by omega)] at hj
        exact zkn_ok a3 hj
    rw [h1, h2, hh]
    rfl
  · rename_i C n d us len C9 k9 f9
    simp only [Bool.and_eq_true] at h
    obtain ⟨⟨⟨⟨a1, a2⟩, a3⟩, a4⟩, a5⟩ := h
    obtain ⟨f, rfl, hf⟩ := hc
    have h1 : n = len i := by simpa using a1
    have h2 : C = C9 := by simpa using a2
    have hh : f = fun j => if j < len i then some (zad k9 (zm0.2.2 k i j)) else none := by
      funext j
      have hj := hf j trivial
      by_cases hq : j < len i
      · rw [if_pos hq]
        exact zkr_ok (List.all_eq_true.mp a5 j (List.mem_range.mpr (by omega))) hj
      · rw [if_neg hq]
        rw [aLk_out a4 (by omega)] at hj
        exact zkn_ok a3 hj
    rw [h1, h2, hh]
    rfl
  · cases h
end ZKC
def zkall : Bool := (List.range 74).all fun k => match zkt[k]? with
  | some s => (List.range s.1).all fun i => zinv[zad k i]? == some (k, i) && decide (zad k i < 500) && (match aget zhC.2.2 (zad k i) with
    | some ca => zkc k i ca s.2
    | none => false)
  | none => false
set_option maxRecDepth 100000 in
theorem zkall_ok : zkall = true := by decide +kernel
theorem zkt_len : zkt.length = 74 := rfl
theorem zkall_at {k i : Nat} {s : wsh} (hs : zTk k = some s) (hi : i < s.1) : zinv[zad k i]? = some (k, i) ∧ zad k i < 500 ∧ ∃ ca, aget zhC.2.2 (zad k i) = some ca ∧ zkc k i ca s.2 = true := by
  have hs : zkt[k]? = some s := hs
  have hk : k < 74 := by have := (List.getElem?_eq_some_iff.mp hs).1; rw [zkt_len] at this; exact this
  have h := List.all_eq_true.mp zkall_ok k (List.mem_range.mpr hk)
  rw [hs] at h
  have h := List.all_eq_true.mp h i (List.mem_range.mpr hi)
  rw [Bool.and_eq_true, Bool.and_eq_true] at h
  refine ⟨by simpa using h.1.1, of_decide_eq_true h.1.2, ?_⟩
  have h2 := h.2
  split at h2
  · rename_i ca hc
    exact ⟨ca, hc, h2⟩
  · cases h2
set_option maxRecDepth 100000 in
theorem zhC_all : ((List.range 2304).all fun q => (aget zhC.2.2 q).isSome) = true := by decide +kernel
def zln : List wsh → Prop
  | [] => True
  | s :: l => (match s.2 with
    | .inl _ => True
    | .inr q => ∀ i, q.2.1 i ≤ 65536) ∧ zln l
theorem zln_at : ∀ {l : List wsh} {k : Nat} {c t : Nat} {len : Nat → Nat} {C : String} {k' : Nat} {f : Nat → Nat → Nat}, zln l → l[k]? = some (c, .inr (t, len, C, k', f)) → ∀ i, len i ≤ 65536 := by
  intro l
  induction l with
  | nil => intro k c t len C k' f _ h; cases h
  | cons s l ih =>
    intro k c t len C k' f h hk
    cases k with
    | zero => cases hk; exact h.1
    | succ k => exact ih h.2 hk
theorem zln_ok : zln zkt :=
  ⟨trivial, trivial, fun i => by show zlim i ≤ 65536; have := zlim_le i; omega, trivial, fun i => Nat.le_of_ble_eq_true rfl, fun i => Nat.le_of_ble_eq_true rfl, trivial, fun i => Nat.le_of_ble_eq_true rfl, fun i => Nat.le_of_ble_eq_true rfl, fun i => Nat.le_of_ble_eq_true rfl, trivial, fun i => Nat.le_of_ble_eq_true rfl, fun i => Nat.le_of_ble_eq_true rfl, trivial, fun i => Nat.le_of_ble_eq_true rfl, fun i => Nat.le_of_ble_eq_true rfl, trivial, fun i => Nat.le_of_ble_eq_true rfl, fun i => Nat.le_of_ble_eq_true rfl, trivial, fun i => Nat.le_of_ble_eq_true rfl, fun i => Nat.le_of_ble_eq_true rfl, trivial, fun i => Nat.le_of_ble_eq_true rfl, fun i => Nat.le_of_ble_eq_true rfl, fun i => Nat.le_of_ble_eq_true rfl, trivial, fun i => Nat.le_of_ble_eq_true rfl, fun i => Nat.le_of_ble_eq_true rfl, fun i => Nat.le_of_ble_eq_true rfl, fun i => Nat.le_of_ble_eq_true rfl, fun i => Nat.le_of_ble_eq_true rfl, fun i => Nat.le_of_ble_eq_true rfl, fun i => Nat.le_of_ble_eq_true rfl, trivial, fun i => Nat.le_of_ble_eq_true rfl, fun i => Nat.le_of_ble_eq_true rfl, fun i => Nat.le_of_ble_eq_true rfl, fun i => Nat.le_of_ble_eq_true rfl, fun i => Nat.le_of_ble_eq_true rfl, fun i => Nat.le_of_ble_eq_true rfl, fun i => Nat.le_of_ble_eq_true rfl, fun i => Nat.le_of_ble_eq_true rfl, fun i => Nat.le_of_ble_eq_true rfl, fun i => Nat.le_of_ble_eq_true rfl, fun i => Nat.le_of_ble_eq_true rfl, fun i => Nat.le_of_ble_eq_true rfl, fun i => Nat.le_of_ble_eq_true rfl, fun i => Nat.le_of_ble_eq_true rfl, fun i => Nat.le_of_ble_eq_true rfl, fun i => Nat.le_of_ble_eq_true rfl, fun i => Nat.le_of_ble_eq_true rfl, fun i => Nat.le_of_ble_eq_true rfl, fun i => Nat.le_of_ble_eq_true rfl, fun i => Nat.le_of_ble_eq_true rfl, fun i => Nat.le_of_ble_eq_true rfl, fun i => Nat.le_of_ble_eq_true rfl, fun i => Nat.le_of_ble_eq_true rfl, fun i => Nat.le_of_ble_eq_true rfl, fun i => Nat.le_of_ble_eq_true rfl, fun i => Nat.le_of_ble_eq_true rfl, fun i => Nat.le_of_ble_eq_true rfl, fun i => Nat.le_of_ble_eq_true rfl, fun i => Nat.le_of_ble_eq_true rfl, fun i => Nat.le_of_ble_eq_true rfl, fun i => Nat.le_of_ble_eq_true rfl, fun i => Nat.le_of_ble_eq_true rfl, fun i => Nat.le_of_ble_eq_true rfl, fun i => Nat.le_of_ble_eq_true rfl, fun i => Nat.le_of_ble_eq_true rfl, fun i => Nat.le_of_ble_eq_true rfl, fun i => Nat.le_of_ble_eq_true rfl, fun i => Nat.le_of_ble_eq_true rfl, fun i => Nat.le_of_ble_eq_true rfl, trivial⟩
theorem zG_ok (sc : xSc) : wG (zK sc) := by
  refine ⟨fun k s i k' s' i' hs hi hs' hi' he => ?_, fun k c t len C k' f h i => zln_at zln_ok h i⟩
  have h1 := (zkall_at hs hi).1
  have h2 := (zkall_at hs' hi').1
  have he : zad k i = zad k' i' := he
  rw [he, h2] at h1
  cases h1
  exact ⟨rfl, rfl⟩
theorem zV_ok {ρ : Nat → Int32} {sc : xSc} {S : xS} (hS : aGS ρ zhC S) : wV (zK sc) (500, 31561) zm0 S := by
  refine ⟨zG_ok sc, hS.1.symm, hS.2.1.symm, fun k s hs i hi => ?_, fun q hq => ?_⟩
  · obtain ⟨_, h1, ca, hca, hk⟩ := zkall_at hs hi
    obtain ⟨c, hc, hg⟩ := hS.2.2 _ ca hca
    refine ⟨by rw [← hS.1]; exact h1, ?_⟩
    show xget S.2.2 (zad k i) = _
    rw [hc, zkc_ok (sc := sc) hk hg]
  · have h := List.all_eq_true.mp zhC_all q (List.mem_range.mpr hq)
    cases ha : aget zhC.2.2 q with
    | none => rw [ha] at h; cases h
    | some ca =>
      obtain ⟨c, hc, _⟩ := hS.2.2 q ca ha
      exact ⟨c, hc⟩
