/-! What the reference keeps of its receiver's places: manifests that hold, files that are held. -/
def zat (b : Int → Int) : Nat → Int
  | 0 => 3
  | j + 1 => zat b j + 10 + b (zat b j)
def zMF (n : Int) (b : Int → Int) : Prop := ∀ j : Nat, (j : Int) < n → 3 ≤ zat b j ∧ 1 ≤ b (zat b j) ∧ b (zat b j) ≤ 6 ∧ zat b j + 10 + b (zat b j) ≤ 104 ∧ b (zat b j + 1 + b (zat b j)) ≤ 96
def zby (m : wm) (p : Int) : Int → Int := fun a => m.1 56 0 (728 * p + a).toNat
def zRP (m : wm) (p : Int) : Prop :=
  (m.1 51 0 p.toNat = 1 → zMF (m.1 52 0 p.toNat) (zby m p) ∧ m.1 55 0 (14 * p).toNat = 1 ∧ (m.1 54 0 (7 * p).toNat ≤ 64 ∨ m.1 55 0 (14 * p + 1).toNat = 1) ∧ 0 ≤ m.1 54 0 (7 * p).toNat) ∧
  (∀ i, 0 ≤ i → i ≤ 6 → m.1 57 0 (7 * p + i).toNat = 1 → m.1 51 0 p.toNat = 1 ∧ 1 ≤ i ∧ i ≤ m.1 52 0 p.toNat ∧ 0 ≤ m.1 54 0 (7 * p + i).toNat ∧ m.1 54 0 (7 * p + i).toNat ≤ 96 ∧ m.1 55 0 (14 * p + 2 * i).toNat = 1) ∧
  (m.1 53 0 p.toNat ≠ 0 → m.1 51 0 p.toNat = 1) ∧
  (m.1 53 0 p.toNat = 1 → ∀ i, 1 ≤ i → i ≤ m.1 52 0 p.toNat → m.1 57 0 (7 * p + i).toNat = 1)
def zRI (m : wm) : Prop := ∀ p, 0 ≤ p → p ≤ 7 → zRP m p
theorem zat_congr {b b' : Int → Int} {n : Int} (h : ∀ a, 0 ≤ a → a < 104 → b' a = b a) (hb : zMF n b) : ∀ j : Nat, (j : Int) ≤ n → zat b' j = zat b j ∧ 3 ≤ zat b j ∧ zat b j ≤ 104 := by
  intro j
  induction j with
  | zero => intro _; exact ⟨rfl, Int.le_refl _, by show (3 : Int) ≤ 104; decide⟩
  | succ j ih =>
    intro hj
    obtain ⟨e, h1, h2⟩ := ih (by omega)
    obtain ⟨a1, a2, a3, a4, a5⟩ := hb j (by omega)
    show zat b' j + 10 + b' (zat b' j) = zat b j + 10 + b (zat b j) ∧ 3 ≤ zat b j + 10 + b (zat b j) ∧ zat b j + 10 + b (zat b j) ≤ 104
    rw [e, h (zat b j) (by omega) (by omega)]
    exact ⟨rfl, by omega, by omega⟩
theorem zMF_congr {b b' : Int → Int} {n : Int} (h : ∀ a, 0 ≤ a → a < 104 → b' a = b a) (hb : zMF n b) : zMF n b' := by
  intro j hj
  obtain ⟨e, h1, h2⟩ := zat_congr h hb j (by omega)
  obtain ⟨a1, a2, a3, a4, a5⟩ := hb j hj
  rw [e, h (zat b j) (by omega) (by omega), h (zat b j + 1 + b (zat b j)) (by omega) (by omega)]
  exact ⟨a1, a2, a3, a4, a5⟩
theorem zMF_at {b : Int → Int} {n : Int} (hb : zMF n b) (j : Nat) (hj : (j : Int) ≤ n) : 3 ≤ zat b j ∧ zat b j ≤ 104 := (zat_congr (fun a _ _ => rfl) hb j hj).2
theorem zRP_congr {m m' : wm} {p p' : Int} (hct : m.1 52 0 p.toNat ≤ 6) (h51 : m'.1 51 0 p'.toNat = m.1 51 0 p.toNat) (h52 : m'.1 52 0 p'.toNat = m.1 52 0 p.toNat) (h53 : m'.1 53 0 p'.toNat = m.1 53 0 p.toNat)
    (h54 : ∀ i, 0 ≤ i → i ≤ 6 → m'.1 54 0 (7 * p' + i).toNat = m.1 54 0 (7 * p + i).toNat) (h55 : ∀ i, 0 ≤ i → i ≤ 13 → m'.1 55 0 (14 * p' + i).toNat = m.1 55 0 (14 * p + i).toNat) (h57 : ∀ i, 0 ≤ i → i ≤ 6 → m'.1 57 0 (7 * p' + i).toNat = m.1 57 0 (7 * p + i).toNat)
    (h56 : ∀ a, 0 ≤ a → a < 104 → zby m' p' a = zby m p a) (h : zRP m p) : zRP m' p' := by
  obtain ⟨a1, a2, a3, a4⟩ := h
  have e54 : m'.1 54 0 (7 * p').toNat = m.1 54 0 (7 * p).toNat := by have := h54 0 (by omega) (by omega); rwa [Int.add_zero, Int.add_zero] at this
  have e55 : m'.1 55 0 (14 * p').toNat = m.1 55 0 (14 * p).toNat := by have := h55 0 (by omega) (by omega); rwa [Int.add_zero, Int.add_zero] at this
  refine ⟨fun hg => ?_, fun i h1 h2 hh => ?_, fun hv => ?_, fun hv i h1 h2 => ?_⟩
  · rw [h51] at hg
    obtain ⟨b1, b2, b3, b4⟩ := a1 hg
    rw [h52, e54, e55, h55 1 (by omega) (by omega)]
    exact ⟨zMF_congr h56 b1, b2, b3, b4⟩
  · rw [h57 i h1 h2] at hh
    rw [h51, h52, h54 i h1 h2, h55 (2 * i) (by omega) (by omega)]
    exact a2 i h1 h2 hh
  · rw [h53] at hv
    rw [h51]
    exact a3 hv
  · rw [h53] at hv
    rw [h52] at h2
    rw [h57 i (by omega) (by omega)]
    exact a4 hv i h1 h2
theorem zRP_nil {m : wm} {p : Int} (h51 : m.1 51 0 p.toNat = 0) (h53 : m.1 53 0 p.toNat = 0) (h57 : ∀ i, 0 ≤ i → i ≤ 6 → m.1 57 0 (7 * p + i).toNat = 0) : zRP m p := by
  refine ⟨fun hg => by omega, fun i h1 h2 hh => by have := h57 i h1 h2; omega, fun hv => absurd h53 hv, fun hv => by omega⟩
/-- sizes that are taken away where nothing is solved -/
def zUs (m m' : wm) : Prop := ∀ j : Int, 0 ≤ j → m'.1 54 0 j.toNat = m.1 54 0 j.toNat ∨ (m'.1 54 0 j.toNat = -1 ∧ m.1 55 0 (2 * j).toNat = 0 ∧ m.1 55 0 (2 * j + 1).toNat = 0)
theorem zUs_rf {m : wm} : zUs m m := fun j _ => Or.inl rfl
theorem zRI_us {m m' : wm} (h : zRI m) (hu : zUs m m') (h51 : m'.1 51 0 = m.1 51 0) (h52 : m'.1 52 0 = m.1 52 0) (h53 : m'.1 53 0 = m.1 53 0) (h55 : m'.1 55 0 = m.1 55 0) (h56 : m'.1 56 0 = m.1 56 0) (h57 : m'.1 57 0 = m.1 57 0) : zRI m' := by
  intro p hp0 hp7
  obtain ⟨a1, a2, a3, a4⟩ := h p hp0 hp7
  have hb : zby m' p = zby m p := by unfold zby; rw [h56]
  refine ⟨fun hg => ?_, fun i h1 h2 hh => ?_, fun hv => ?_, fun hv i h1 h2 => ?_⟩
  · rw [h51] at hg
    obtain ⟨b1, b2, b3, b4⟩ := a1 hg
    have e := hu (7 * p) (by omega)
    rw [show 2 * (7 * p) = 14 * p by omega] at e
    have e : m'.1 54 0 (7 * p).toNat = m.1 54 0 (7 * p).toNat := e.elim id (fun z => by omega)
    rw [h52, h55, e, hb]
    exact ⟨b1, b2, b3, b4⟩
  · rw [h57] at hh
    obtain ⟨b1, b2, b3, b4, b5, b6⟩ := a2 i h1 h2 hh
    have e := hu (7 * p + i) (by omega)
    rw [show 2 * (7 * p + i) = 14 * p + 2 * i by omega] at e
    have e : m'.1 54 0 (7 * p + i).toNat = m.1 54 0 (7 * p + i).toNat := e.elim id (fun z => by omega)
    rw [h51, h52, h55, e]
    exact ⟨b1, b2, b3, b4, b5, b6⟩
  · rw [h53] at hv
    rw [h51]
    exact a3 hv
  · rw [h53] at hv
    rw [h52] at h2
    rw [h57]
    exact a4 hv i h1 h2
/-- one item forgotten -/
def zFg (m m' : wm) (q : Int) : Prop := (∀ j : Int, 0 ≤ j → m'.1 57 0 j.toNat = if j = q then 0 else m.1 57 0 j.toNat) ∧ (∀ j : Int, 0 ≤ j → m'.1 54 0 j.toNat = if j = q then -1 else m.1 54 0 j.toNat) ∧ (∀ j : Int, 0 ≤ j → m'.1 55 0 j.toNat = if j = 2 * q ∨ j = 2 * q + 1 then 0 else m.1 55 0 j.toNat)
theorem zRI_fg {m m' : wm} {p i : Int} (h : zRI m) (hct : ∀ p : Int, m.1 52 0 p.toNat ≤ 6) (hp0 : 0 ≤ p) (hp7 : p ≤ 7) (hi0 : 0 ≤ i) (hi6 : i ≤ 6) (hf : zFg m m' (7 * p + i)) (h51 : m'.1 51 0 = m.1 51 0) (h52 : m'.1 52 0 = m.1 52 0) (h53 : m'.1 53 0 = m.1 53 0) (h56 : m'.1 56 0 = m.1 56 0)
    (hh : m.1 57 0 (7 * p + i).toNat ≠ 1 ∨ m.1 52 0 p.toNat < i) (hg : 1 ≤ i ∨ m.1 51 0 p.toNat ≠ 1) : zRI m' := by
  intro p' hp0' hp7'
  obtain ⟨f1, f2, f3⟩ := hf
  by_cases hp : p' = p
  · subst hp
    obtain ⟨a1, a2, a3, a4⟩ := h p' hp0 hp7
    have hb : zby m' p' = zby m p' := by unfold zby; rw [h56]
    refine ⟨fun hg' => ?_, fun i' h1 h2 hh' => ?_, fun hv => ?_, fun hv i' h1 h2 => ?_⟩
    · rw [h51] at hg'
      obtain ⟨b1, b2, b3, b4⟩ := a1 hg'
      have hi1 : 1 ≤ i := hg.elim id (fun z => absurd hg' z)
      rw [h52, hb, f2 (7 * p') (by omega), f3 (14 * p') (by omega), f3 (14 * p' + 1) (by omega), if_neg (by omega), if_neg (by omega), if_neg (by omega)]
      exact ⟨b1, b2, b3, b4⟩
    · rw [f1 (7 * p' + i') (by omega)] at hh'
      by_cases hii : i' = i
      · rw [if_pos (by omega)] at hh'; omega
      · rw [if_neg (by omega)] at hh'
        rw [h51, h52, f2 (7 * p' + i') (by omega), f3 (14 * p' + 2 * i') (by omega), if_neg (by omega), if_neg (by omega)]
        exact a2 i' h1 h2 hh'
    · rw [h53] at hv
      rw [h51]
      exact a3 hv
    · rw [h53] at hv
      rw [h52] at h2
      have h9 := a4 hv i' h1 h2
      have h8 := hct p'
      rw [f1 (7 * p' + i') (by omega), if_neg (fun z => by
        have hii : i' = i := by omega
        subst hii
        rcases hh with hh | hh
        · exact hh h9
        · omega)]
      exact h9
  · refine zRP_congr (m := m) (p := p') (hct p') (by rw [h51]) (by rw [h52]) (by rw [h53]) (fun i' h1 h2 => ?_) (fun i' h1 h2 => ?_) (fun i' h1 h2 => ?_) (fun a h1 h2 => by unfold zby; rw [h56]) (h p' hp0' hp7')
    · rw [f2 _ (by omega), if_neg (by omega)]
    · rw [f3 _ (by omega), if_neg (by omega)]
    · rw [f1 _ (by omega), if_neg (by omega)]
theorem wuI_at {m : wm} {k i : Nat} {q j X : Int} (hq : 0 ≤ q) (hj : 0 ≤ j) : (wuI m k i q.toNat X).1 k i j.toNat = if j = q then X else m.1 k i j.toNat := by
  show (if k = k ∧ i = i ∧ j.toNat = q.toNat then X else m.1 k i j.toNat) = _
  by_cases h : j = q
  · rw [if_pos ⟨rfl, rfl, by rw [h]⟩, if_pos h]
  · rw [if_neg (fun z => h (by omega)), if_neg h]
section ZRW
variable {m : wm} {p i X : Int}
theorem zRI_w54 (h : zRI m) (hct : ∀ p : Int, m.1 52 0 p.toNat ≤ 6) (hp : 0 ≤ p ∧ p ≤ 7 ∧ 0 ≤ i ∧ i ≤ 6) (hc : m.1 54 0 (7 * p + i).toNat = X ∨ (1 ≤ i ∨ m.1 51 0 p.toNat ≠ 1) ∧ m.1 57 0 (7 * p + i).toNat ≠ 1) : zRI (wuI m 54 0 (7 * p + i).toNat X) := by
  intro p' h0 h7
  have e : ∀ j, 0 ≤ j → (wuI m 54 0 (7 * p + i).toNat X).1 54 0 j.toNat = if j = 7 * p + i then X else m.1 54 0 j.toNat := fun j hj => wuI_at (by omega) hj
  by_cases hs : m.1 54 0 (7 * p + i).toNat = X
  · refine zRP_congr (m := m) (p := p') (hct p') rfl rfl rfl (fun i' h1 h2 => ?_) (fun i' h1 h2 => rfl) (fun i' h1 h2 => rfl) (fun a h1 h2 => rfl) (h p' h0 h7)
    rw [e _ (by omega)]
    by_cases hq : 7 * p' + i' = 7 * p + i
    · rw [if_pos hq, hq, hs]
    · rw [if_neg hq]
  · obtain ⟨c1, c2⟩ := hc.elim (fun z => absurd z hs) id
    obtain ⟨a1, a2, a3, a4⟩ := h p' h0 h7
    refine ⟨fun hg => ?_, fun i' h1 h2 hh => ?_, a3, a4⟩
    · obtain ⟨b1, b2, b3, b4⟩ := a1 hg
      have hne : ¬ 7 * p' = 7 * p + i := fun z => by
        have hpp : p' = p := by omega
        subst hpp
        rcases c1 with c1 | c1
        · omega
        · exact c1 hg
      rw [e (7 * p') (by omega), if_neg hne]
      exact ⟨b1, b2, b3, b4⟩
    · obtain ⟨b1, b2, b3, b4, b5, b6⟩ := a2 i' h1 h2 hh
      rw [e (7 * p' + i') (by omega), if_neg (fun z => c2 (by rw [← z]; exact hh))]
      exact ⟨b1, b2, b3, b4, b5, b6⟩
theorem zRI_w55 {b : Int} (h : zRI m) (hct : ∀ p : Int, m.1 52 0 p.toNat ≤ 6) (hp : 0 ≤ p ∧ p ≤ 7 ∧ 0 ≤ i ∧ i ≤ 6 ∧ 0 ≤ b ∧ b ≤ 1) (hc : X = 1 ∨ (1 ≤ i ∨ m.1 51 0 p.toNat ≠ 1) ∧ m.1 57 0 (7 * p + i).toNat ≠ 1) : zRI (wuI m 55 0 (2 * (7 * p + i) + b).toNat X) := by
  intro p' h0 h7
  have e : ∀ j, 0 ≤ j → (wuI m 55 0 (2 * (7 * p + i) + b).toNat X).1 55 0 j.toNat = if j = 2 * (7 * p + i) + b then X else m.1 55 0 j.toNat := fun j hj => wuI_at (by omega) hj
  obtain ⟨a1, a2, a3, a4⟩ := h p' h0 h7
  refine ⟨fun hg => ?_, fun i' h1 h2 hh => ?_, a3, a4⟩
  · obtain ⟨b1, b2, b3, b4⟩ := a1 hg
    have hX : (14 * p' = 2 * (7 * p + i) + b ∨ 14 * p' + 1 = 2 * (7 * p + i) + b) → X = 1 := fun z => by
      rcases hc with hc | ⟨c1, c2⟩
      · exact hc
      · have hpp : p' = p := by omega
        subst hpp
        rcases c1 with c1 | c1
        · omega
        · exact absurd hg c1
    refine ⟨b1, ?_, ?_, b4⟩
    · rw [e (14 * p') (by omega)]
      by_cases hq : 14 * p' = 2 * (7 * p + i) + b
      · rw [if_pos hq]; exact hX (Or.inl hq)
      · rw [if_neg hq]; exact b2
    · rw [e (14 * p' + 1) (by omega)]
      by_cases hq : 14 * p' + 1 = 2 * (7 * p + i) + b
      · rw [if_pos hq]; exact Or.inr (hX (Or.inr hq))
      · rw [if_neg hq]; exact b3
  · obtain ⟨b1, b2, b3, b4, b5, b6⟩ := a2 i' h1 h2 hh
    refine ⟨b1, b2, b3, b4, b5, ?_⟩
    rw [e (14 * p' + 2 * i') (by omega)]
    by_cases hq : 14 * p' + 2 * i' = 2 * (7 * p + i) + b
    · rw [if_pos hq]
      rcases hc with hc | ⟨c1, c2⟩
      · exact hc
      · have h1 : 7 * p' + i' = 7 * p + i := by omega
        exact absurd (by rw [← h1]; exact hh) c2
    · rw [if_neg hq]; exact b6
theorem zRI_w56 {a : Int} (h : zRI m) (hct : ∀ p : Int, m.1 52 0 p.toNat ≤ 6) (hp : 0 ≤ p ∧ p ≤ 7 ∧ 0 ≤ i ∧ i ≤ 6 ∧ 0 ≤ a ∧ a < 104) (hc : 1 ≤ i ∨ m.1 51 0 p.toNat ≠ 1) : zRI (wuI m 56 0 (104 * (7 * p + i) + a).toNat X) := by
  intro p' h0 h7
  have e : ∀ j, 0 ≤ j → (wuI m 56 0 (104 * (7 * p + i) + a).toNat X).1 56 0 j.toNat = if j = 104 * (7 * p + i) + a then X else m.1 56 0 j.toNat := fun j hj => wuI_at (by omega) hj
  by_cases hq : p' = p ∧ i = 0
  · obtain ⟨rfl, rfl⟩ := hq
    have hg : m.1 51 0 p'.toNat ≠ 1 := hc.elim (fun z => by omega) id
    obtain ⟨a1, a2, a3, a4⟩ := h p' h0 h7
    exact ⟨fun z => absurd z hg, a2, a3, a4⟩
  · refine zRP_congr (m := m) (p := p') (hct p') rfl rfl rfl (fun i' h1 h2 => rfl) (fun i' h1 h2 => rfl) (fun i' h1 h2 => rfl) (fun a' h1 h2 => ?_) (h p' h0 h7)
    unfold zby
    rw [e _ (by omega), if_neg (fun z => hq (by constructor <;> omega))]
theorem zRI_w57 (h : zRI m) (hp : 0 ≤ p ∧ p ≤ 7 ∧ 0 ≤ i ∧ i ≤ 6) (hc : m.1 51 0 p.toNat = 1 ∧ 1 ≤ i ∧ i ≤ m.1 52 0 p.toNat ∧ 0 ≤ m.1 54 0 (7 * p + i).toNat ∧ m.1 54 0 (7 * p + i).toNat ≤ 96 ∧ m.1 55 0 (2 * (7 * p + i)).toNat = 1) : zRI (wuI m 57 0 (7 * p + i).toNat 1) := by
  intro p' h0 h7
  have e : ∀ j, 0 ≤ j → (wuI m 57 0 (7 * p + i).toNat 1).1 57 0 j.toNat = if j = 7 * p + i then 1 else m.1 57 0 j.toNat := fun j hj => wuI_at (by omega) hj
  obtain ⟨a1, a2, a3, a4⟩ := h p' h0 h7
  refine ⟨a1, fun i' h1 h2 hh => ?_, a3, fun hv i' h1 h2 => ?_⟩
  · rw [e (7 * p' + i') (by omega)] at hh
    by_cases hq : 7 * p' + i' = 7 * p + i
    · have hpp : p' = p := by omega
      have hii : i' = i := by omega
      subst hpp hii
      rw [show 2 * (7 * p' + i') = 14 * p' + 2 * i' by omega] at hc
      exact hc
    · rw [if_neg hq] at hh
      exact a2 i' h1 h2 hh
  · rw [e (7 * p' + i') (by omega)]
    by_cases hq : 7 * p' + i' = 7 * p + i
    · rw [if_pos hq]
    · rw [if_neg hq]; exact a4 hv i' h1 h2
theorem zRI_w53 (h : zRI m) (hct : ∀ p : Int, m.1 52 0 p.toNat ≤ 6) (hp : 0 ≤ p ∧ p ≤ 7) (hg : m.1 51 0 p.toNat = 1) (hc : X = 1 → ∀ i, 1 ≤ i → i ≤ m.1 52 0 p.toNat → m.1 57 0 (7 * p + i).toNat = 1) : zRI (wuI m 53 0 p.toNat X) := by
  intro p' h0 h7
  have e : ∀ j, 0 ≤ j → (wuI m 53 0 p.toNat X).1 53 0 j.toNat = if j = p then X else m.1 53 0 j.toNat := fun j hj => wuI_at (by omega) hj
  obtain ⟨a1, a2, a3, a4⟩ := h p' h0 h7
  refine ⟨a1, a2, fun hv => ?_, fun hv i' h1 h2 => ?_⟩
  · rw [e p' h0] at hv
    by_cases hq : p' = p
    · rw [hq]; exact hg
    · rw [if_neg hq] at hv; exact a3 hv
  · rw [e p' h0] at hv
    by_cases hq : p' = p
    · rw [if_pos hq] at hv
      subst hq
      exact hc hv i' h1 h2
    · rw [if_neg hq] at hv; exact a4 hv i' h1 h2
theorem zRI_w52 (h : zRI m) (hct : ∀ p : Int, m.1 52 0 p.toNat ≤ 6) (hp : 0 ≤ p ∧ p ≤ 7) (hg : m.1 51 0 p.toNat ≠ 1) : zRI (wuI m 52 0 p.toNat X) := by
  intro p' h0 h7
  have e : ∀ j, 0 ≤ j → (wuI m 52 0 p.toNat X).1 52 0 j.toNat = if j = p then X else m.1 52 0 j.toNat := fun j hj => wuI_at (by omega) hj
  by_cases hq : p' = p
  · subst hq
    obtain ⟨a1, a2, a3, a4⟩ := h p' h0 h7
    exact ⟨fun z => absurd z hg, fun i' h1 h2 hh => absurd (a2 i' h1 h2 hh).1 hg, a3, fun hv => absurd (a3 (by have hv : m.1 53 0 p'.toNat = 1 := hv; omega)) hg⟩
  · refine zRP_congr (m := m) (p := p') (hct p') rfl (by rw [e p' h0, if_neg hq]) rfl (fun i' h1 h2 => rfl) (fun i' h1 h2 => rfl) (fun i' h1 h2 => rfl) (fun a' h1 h2 => rfl) (h p' h0 h7)
theorem zRI_w51 (h : zRI m) (hct : ∀ p : Int, m.1 52 0 p.toNat ≤ 6) (hp : 0 ≤ p ∧ p ≤ 7) (hg : m.1 51 0 p.toNat ≠ 1) (hc : zMF (m.1 52 0 p.toNat) (zby m p) ∧ m.1 55 0 (2 * (7 * p)).toNat = 1 ∧ (m.1 54 0 (7 * p).toNat ≤ 64 ∨ m.1 55 0 (2 * (7 * p) + 1).toNat = 1) ∧ 0 ≤ m.1 54 0 (7 * p).toNat) : zRI (wuI m 51 0 p.toNat 1) := by
  intro p' h0 h7
  have e : ∀ j, 0 ≤ j → (wuI m 51 0 p.toNat 1).1 51 0 j.toNat = if j = p then 1 else m.1 51 0 j.toNat := fun j hj => wuI_at (by omega) hj
  by_cases hq : p' = p
  · subst hq
    obtain ⟨a1, a2, a3, a4⟩ := h p' h0 h7
    have e1 := e p' h0
    rw [if_pos rfl] at e1
    rw [show 2 * (7 * p') = 14 * p' by omega] at hc
    exact ⟨fun _ => hc, fun i' h1 h2 hh => absurd (a2 i' h1 h2 hh).1 hg, fun _ => e1, fun hv => absurd (a3 (by have hv : m.1 53 0 p'.toNat = 1 := hv; omega)) hg⟩
  · refine zRP_congr (m := m) (p := p') (hct p') (by rw [e p' h0, if_neg hq]) rfl rfl (fun i' h1 h2 => rfl) (fun i' h1 h2 => rfl) (fun i' h1 h2 => rfl) (fun a' h1 h2 => rfl) (h p' h0 h7)
end ZRW
/-- what hangs on other kinds alone is as it was -/
theorem zRI_fr {e : Nat → Nat → Nat → Prop} {m m' : wm} (h : zRI m) (hf : zfr e m m') (he : ∀ k j, k = 51 ∨ k = 52 ∨ k = 53 ∨ k = 54 ∨ k = 55 ∨ k = 56 ∨ k = 57 → ¬ e k 0 j) : zRI m' := by
  have q : ∀ k, k = 51 ∨ k = 52 ∨ k = 53 ∨ k = 54 ∨ k = 55 ∨ k = 56 ∨ k = 57 → m'.1 k 0 = m.1 k 0 := fun k hk => by funext j; exact (hf k 0 j (he k j hk)).1
  exact zRI_us h (fun j _ => Or.inl (by rw [q 54 (by omega)])) (q 51 (by omega)) (q 52 (by omega)) (q 53 (by omega)) (q 55 (by omega)) (q 56 (by omega)) (q 57 (by omega))
theorem zB_ct {c : Int} {m : wm} (h : zB c m) : ∀ p : Int, m.1 52 0 p.toNat ≤ 6 := fun p => (show (0 : Int) ≤ m.1 52 0 p.toNat ∧ m.1 52 0 p.toNat ≤ 6 from h.1 52 _ rfl _ _).2
theorem zRI_wo {m : wm} {k i j : Nat} {X : Int} (hk : k < 51 ∨ 57 < k) (h : zRI m) : zRI (wuI m k i j X) :=
  zRI_fr (e := fun a _ _ => a = k) h (zfr_wI zfr_rf rfl) (fun a j ha => by show ¬ a = k; omega)
theorem zRI_wL {m : wm} {k i j : Nat} {x : Int64} (h : zRI m) : zRI (wuL m k i j x) := h
theorem zUs_w {m0 m : wm} {i X : Int} (hu : zUs m0 m) (hi : 0 ≤ i) (hX : X = m.1 54 0 i.toNat ∨ (X = -1 ∧ m0.1 55 0 (2 * i).toNat = 0 ∧ m0.1 55 0 (2 * i + 1).toNat = 0)) : zUs m0 (wuI m 54 0 i.toNat X) := fun j hj => by
  rw [wuI_at hi hj]
  by_cases h : j = i
  · rw [if_pos h, h]
    rcases hX with hX | hX
    · rw [hX]; exact hu i hi
    · exact Or.inr hX
  · rw [if_neg h]; exact hu j hj
theorem zif2 {j q a : Int} : (if j = 2 * q + 1 then (0 : Int) else if j = 2 * q then 0 else a) = if j = 2 * q ∨ j = 2 * q + 1 then 0 else a := by
  by_cases h1 : j = 2 * q + 1
  · rw [if_pos h1, if_pos (Or.inr h1)]
  · rw [if_neg h1]
    by_cases h2 : j = 2 * q
    · rw [if_pos h2, if_pos (Or.inl h2)]
    · rw [if_neg h2, if_neg (fun z => z.elim h2 h1)]
theorem ztells_s {m : wm} {f a i r : Int} (ha : a = zat (zby m f) i.toNat) (hi : 0 ≤ i) (hr : r = m.1 56 0 (104 * (7 * f) + a).toNat ∧ 0 ≤ r ∧ r ≤ 255) : a + (10 + r) = zat (zby m f) (i + 1).toNat := by
  have e : (i + 1).toNat = i.toNat + 1 := by omega
  rw [e]
  show a + (10 + r) = zat (zby m f) i.toNat + 10 + zby m f (zat (zby m f) i.toNat)
  rw [← ha, hr.1]
  unfold zby
  rw [show 104 * (7 * f) + a = 728 * f + a by omega]
  omega
def zHit (m : wm) (hi x y : Int) : Prop := ∃ q : Int, 0 ≤ q ∧ q < hi ∧ x ≤ m.1 58 0 q.toNat ∧ m.1 58 0 q.toNat ≤ y
theorem zMF_s {b : Int → Int} {i : Int} (hi : 0 ≤ i) (h : zMF i b) (hn : 3 ≤ zat b i.toNat ∧ 1 ≤ b (zat b i.toNat) ∧ b (zat b i.toNat) ≤ 6 ∧ zat b i.toNat + 10 + b (zat b i.toNat) ≤ 104 ∧ b (zat b i.toNat + 1 + b (zat b i.toNat)) ≤ 96) : zMF (i + 1) b := fun j hj => by
  by_cases h9 : (j : Int) < i
  · exact h j h9
  · have e : j = i.toNat := by omega
    rw [e]
    exact hn
theorem zMF_0 {b : Int → Int} : zMF 0 b := fun j hj => by omega
theorem zman_s {m : wm} {f a i n s9 : Int} (hi : 0 ≤ i) (ha : a = zat (zby m f) i.toNat) (h : zMF i (zby m f)) (hn : n = m.1 56 0 (104 * (7 * f) + a).toNat) (hs : s9 = m.1 56 0 (104 * (7 * f) + (a + 1 + n)).toNat) (h1 : 3 ≤ a ∧ 1 ≤ n ∧ n ≤ 6 ∧ a + 10 + n ≤ 104 ∧ s9 ≤ 96) : zMF (i + 1) (zby m f) ∧ a + (10 + n) = zat (zby m f) (i + 1).toNat := by
  have e1 : zby m f (zat (zby m f) i.toNat) = n := by rw [← ha, hn]; unfold zby; rw [show 104 * (7 * f) + a = 728 * f + a by omega]
  have e2 : zby m f (zat (zby m f) i.toNat + 1 + n) = s9 := by rw [← ha, hs]; unfold zby; rw [show 104 * (7 * f) + (a + 1 + n) = 728 * f + (a + 1 + n) by omega]
  refine ⟨zMF_s hi h (by rw [e1, e2, ← ha]; omega), ?_⟩
  rw [show (i + 1).toNat = i.toNat + 1 by omega]
  show _ = zat (zby m f) i.toNat + 10 + zby m f (zat (zby m f) i.toNat)
  rw [e1, ← ha]
  omega
theorem zMF_n {m : wm} {f x i r v : Int} (hM : zMF x (zby m f)) (hr : r = zat (zby m f) i.toNat) (hv : v = m.1 56 0 (104 * (7 * f) + r).toNat) (hi : 0 ≤ i ∧ i < x) : 1 ≤ v ∧ v ≤ 6 ∧ 3 ≤ r ∧ r + 10 + v ≤ 104 ∧ m.1 56 0 (104 * (7 * f) + (r + 1 + v)).toNat ≤ 96 := by
  obtain ⟨a1, a2, a3, a4, a5⟩ := hM i.toNat (by omega)
  have e1 : zby m f (zat (zby m f) i.toNat) = v := by rw [← hr, hv]; unfold zby; rw [show 104 * (7 * f) + r = 728 * f + r by omega]
  rw [e1] at a2 a3 a4 a5
  rw [← hr] at a1 a4 a5
  have e2 : zby m f (r + 1 + v) = m.1 56 0 (104 * (7 * f) + (r + 1 + v)).toNat := by unfold zby; rw [show 104 * (7 * f) + (r + 1 + v) = 728 * f + (r + 1 + v) by omega]
  rw [e2] at a5
  exact ⟨a2, a3, a1, a4, a5⟩
theorem zMF_ge {b : Int → Int} {x i : Int} (hM : zMF x b) (hi : 1 ≤ i ∧ i ≤ x) : 14 ≤ zat b i.toNat := by
  obtain ⟨a1, a2, a3, a4, a5⟩ := hM (i - 1).toNat (by omega)
  rw [show i.toNat = (i - 1).toNat + 1 by omega]
  show 14 ≤ zat b (i - 1).toNat + 10 + b (zat b (i - 1).toNat)
  omega
theorem zRI_mf {m : wm} {p : Int} (h : zRI m) (hp : 0 ≤ p ∧ p ≤ 7) (hg : m.1 51 0 p.toNat = 1) : zMF (m.1 52 0 p.toNat) (zby m p) := ((h p hp.1 hp.2).1 hg).1
theorem zRI_man {m : wm} {p B : Int} (h : zRI m) (hct : ∀ p : Int, m.1 52 0 p.toNat ≤ 6) (hB : B ≤ 6) (hp : 0 ≤ p ∧ p ≤ 7) (hg : m.1 51 0 p.toNat ≠ 1) (hM : zMF B (zby m p)) (hc : m.1 55 0 (2 * (7 * p)).toNat = 1 ∧ (m.1 54 0 (7 * p).toNat ≤ 64 ∨ m.1 55 0 (2 * (7 * p) + 1).toNat = 1) ∧ 0 ≤ m.1 54 0 (7 * p).toNat) : zRI (wuI (wuI m 51 0 p.toNat 1) 52 0 p.toNat B) := by
  have e : wuI (wuI m 51 0 p.toNat 1) 52 0 p.toNat B = wuI (wuI m 52 0 p.toNat B) 51 0 p.toNat 1 := by
    unfold wuI
    refine Prod.ext ?_ rfl
    funext k i j
    dsimp only
    by_cases h1 : k = 52 ∧ i = 0 ∧ j = p.toNat
    · rw [if_pos h1, if_neg (by omega), if_pos h1]
    · rw [if_neg h1, if_neg h1]
  rw [e]
  refine zRI_w51 (zRI_w52 h hct hp hg) (fun q => ?_) hp hg ?_
  · by_cases h1 : q.toNat = p.toNat
    · rw [h1, wuI_self]; exact hB
    · rw [wuI_nj (by omega)]; exact hct q
  · rw [wuI_self]
    exact ⟨hM, hc⟩
def zHs (m : wm) (f i : Int) : Prop := ∀ j, 1 ≤ j → j < i → m.1 57 0 (7 * f + j).toNat = 1
theorem zHs_1 {m : wm} {f : Int} : zHs m f 1 := fun j h1 h2 => by omega
theorem zHs_s {m : wm} {f i : Int} (h : zHs m f i) (hi : m.1 57 0 (7 * f + i).toNat = 1) : zHs m f (i + 1) := fun j h1 h2 => by
  by_cases h3 : j = i
  · rw [h3]; exact hi
  · exact h j h1 (by omega)
theorem zRI_w55a {m : wm} {p i X : Int} (h : zRI m) (hct : ∀ p : Int, m.1 52 0 p.toNat ≤ 6) (hp : 0 ≤ p ∧ p ≤ 7 ∧ 0 ≤ i ∧ i ≤ 6) (hc : X = 1 ∨ (1 ≤ i ∨ m.1 51 0 p.toNat ≠ 1) ∧ m.1 57 0 (7 * p + i).toNat ≠ 1) : zRI (wuI m 55 0 (2 * (7 * p + i)).toNat X) := by
  have := zRI_w55 (b := 0) h hct (by omega) hc
  rwa [Int.add_zero] at this
theorem zUs_fr {m0 m m1 : wm} (h : zUs m m1) (h54 : m.1 54 0 = m0.1 54 0) (h55 : m.1 55 0 = m0.1 55 0) : zUs m0 m1 := fun j hj => by rw [← h54, ← h55]; exact h j hj
