/-! Places emptied, cleared and shifted. -/
def zEm (m0 m : wm) (f k : Int) : Prop := (∀ j : Int, 0 ≤ j → m.1 57 0 j.toNat = if 7 * f ≤ j ∧ j < 7 * f + k then 0 else m0.1 57 0 j.toNat) ∧ (∀ j : Int, 0 ≤ j → m.1 54 0 j.toNat = if 7 * f ≤ j ∧ j < 7 * f + k then -1 else m0.1 54 0 j.toNat) ∧ (∀ j : Int, 0 ≤ j → m.1 55 0 j.toNat = if 14 * f ≤ j ∧ j < 14 * f + 2 * k then 0 else m0.1 55 0 j.toNat)
theorem zEm_0 {m : wm} {f : Int} : zEm m m f 0 := ⟨fun j _ => by rw [if_neg (by omega)], fun j _ => by rw [if_neg (by omega)], fun j _ => by rw [if_neg (by omega)]⟩
theorem zEm_s {m0 m m' : wm} {f k : Int} (h : zEm m0 m f k) (hf : zFg m m' (7 * f + k)) (hk : 0 ≤ f ∧ 0 ≤ k) : zEm m0 m' f (k + 1) := by
  obtain ⟨a1, a2, a3⟩ := h
  obtain ⟨b1, b2, b3⟩ := hf
  refine ⟨fun j hj => ?_, fun j hj => ?_, fun j hj => ?_⟩
  · rw [b1 j hj, a1 j hj]
    by_cases h1 : j = 7 * f + k
    · rw [if_pos h1, if_pos (by omega)]
    · rw [if_neg h1]
      by_cases h2 : 7 * f ≤ j ∧ j < 7 * f + k
      · rw [if_pos h2, if_pos (by omega)]
      · rw [if_neg h2, if_neg (by omega)]
  · rw [b2 j hj, a2 j hj]
    by_cases h1 : j = 7 * f + k
    · rw [if_pos h1, if_pos (by omega)]
    · rw [if_neg h1]
      by_cases h2 : 7 * f ≤ j ∧ j < 7 * f + k
      · rw [if_pos h2, if_pos (by omega)]
      · rw [if_neg h2, if_neg (by omega)]
  · rw [b3 j hj, a3 j hj]
    by_cases h1 : j = 2 * (7 * f + k) ∨ j = 2 * (7 * f + k) + 1
    · rw [if_pos h1, if_pos (by omega)]
    · rw [if_neg h1]
      by_cases h2 : 14 * f ≤ j ∧ j < 14 * f + 2 * k
      · rw [if_pos h2, if_pos (by omega)]
      · rw [if_neg h2, if_neg (by omega)]
/-- a row of places, one of them 0 -/
def zZe (k : Nat) (m0 m : wm) (f : Int) : Prop := ∀ j : Int, 0 ≤ j → m.1 k 0 j.toNat = if j = f then 0 else m0.1 k 0 j.toNat
theorem zRI_em {m0 m1 : wm} {f : Int} (h : zRI m0) (hct : ∀ p : Int, m0.1 52 0 p.toNat ≤ 6) (hf : 0 ≤ f ∧ f ≤ 7) (he : zEm m0 m1 f 7) (h51 : zZe 51 m0 m1 f) (h52 : zZe 52 m0 m1 f) (h53 : zZe 53 m0 m1 f) (h56 : m1.1 56 0 = m0.1 56 0) : zRI m1 := by
  obtain ⟨a1, a2, a3⟩ := he
  intro p hp0 hp7
  by_cases hp : p = f
  · subst hp
    refine zRP_nil (by rw [h51 p hp0, if_pos rfl]) (by rw [h53 p hp0, if_pos rfl]) (fun i h1 h2 => by rw [a1 _ (by omega), if_pos (by omega)])
  · refine zRP_congr (m := m0) (p := p) (hct p) (by rw [h51 p hp0, if_neg hp]) (by rw [h52 p hp0, if_neg hp]) (by rw [h53 p hp0, if_neg hp]) (fun i h1 h2 => ?_) (fun i h1 h2 => ?_) (fun i h1 h2 => ?_) (fun a h1 h2 => by unfold zby; rw [h56]) (h p hp0 hp7)
    · rw [a2 _ (by omega), if_neg (by omega)]
    · rw [a3 _ (by omega), if_neg (by omega)]
    · rw [a1 _ (by omega), if_neg (by omega)]
theorem zZe_w {k : Nat} {m : wm} {f : Int} (hf : 0 ≤ f) : zZe k m (wuI m k 0 f.toNat 0) f := fun j hj => wuI_at hf hj
/-- a row of which a part was copied down -/
def zCp (k : Nat) (m0 m : wm) (lo hi s : Int) : Prop := ∀ j : Int, 0 ≤ j → m.1 k 0 j.toNat = if lo ≤ j ∧ j < hi then m0.1 k 0 (j + s).toNat else m0.1 k 0 j.toNat
theorem zCp_0 {k : Nat} {m : wm} {lo s : Int} : zCp k m m lo lo s := fun j _ => by rw [if_neg (by omega)]
theorem zCp_s {k : Nat} {m0 m : wm} {lo hi s q t X : Int} (h : zCp k m0 m lo hi s) (hq : q = hi) (hlo : 0 ≤ lo ∧ lo ≤ hi ∧ 0 ≤ s) (ht : t = hi + s) (hX : X = m.1 k 0 t.toNat) : zCp k m0 (wuI m k 0 q.toNat X) lo (hi + 1) s := fun j hj => by
  rw [wuI_at (by omega) hj]
  by_cases h1 : j = q
  · rw [if_pos h1, if_pos (by omega), hX, h t (by omega), if_neg (by omega), ht, h1, hq]
  · rw [if_neg h1, h j hj]
    by_cases h2 : lo ≤ j ∧ j < hi
    · rw [if_pos h2, if_pos (by omega)]
    · rw [if_neg h2, if_neg (by omega)]
theorem zCp_hi {k : Nat} {m0 m : wm} {lo hi hi' s : Int} (h : zCp k m0 m lo hi s) (e : hi' = hi) : zCp k m0 m lo hi' s := e ▸ h
theorem zRI_sh {m0 m m1 : wm} {f : Int} (h : zRI m0) (hct : ∀ p : Int, m0.1 52 0 p.toNat ≤ 6) (hf : 1 ≤ f ∧ f ≤ 7) (c51 : zCp 51 m0 m (f - 1) f 1) (c52 : zCp 52 m0 m (f - 1) f 1) (c53 : zCp 53 m0 m (f - 1) f 1) (c54 : zCp 54 m0 m (7 * f - 7) (7 * f) 7) (c55 : zCp 55 m0 m (14 * f - 14) (14 * f) 14) (c57 : zCp 57 m0 m (7 * f - 7) (7 * f) 7) (c56 : zCp 56 m0 m (728 * f - 728) (728 * f) 728)
    (he : zEm m m1 f 7) (h51 : zZe 51 m m1 f) (h52 : zZe 52 m m1 f) (h53 : zZe 53 m m1 f) (h56 : m1.1 56 0 = m.1 56 0) : zRI m1 := by
  obtain ⟨a1, a2, a3⟩ := he
  intro p hp0 hp7
  by_cases hp : p = f
  · subst hp
    refine zRP_nil (by rw [h51 p hp0, if_pos rfl]) (by rw [h53 p hp0, if_pos rfl]) (fun i h1 h2 => by rw [a1 _ (by omega), if_pos (by omega)])
  · by_cases hq : p = f - 1
    · have e1 : p + 1 = f := by omega
      refine zRP_congr (m := m0) (p := f) (hct f) ?_ ?_ ?_ (fun i h1 h2 => ?_) (fun i h1 h2 => ?_) (fun i h1 h2 => ?_) (fun a h1 h2 => ?_) (h f (by omega) (by omega))
      · rw [h51 p hp0, if_neg hp, c51 p hp0, if_pos (by omega), e1]
      · rw [h52 p hp0, if_neg hp, c52 p hp0, if_pos (by omega), e1]
      · rw [h53 p hp0, if_neg hp, c53 p hp0, if_pos (by omega), e1]
      · rw [a2 _ (by omega), if_neg (by omega), c54 _ (by omega), if_pos (by omega), show 7 * p + i + 7 = 7 * f + i by omega]
      · rw [a3 _ (by omega), if_neg (by omega), c55 _ (by omega), if_pos (by omega), show 14 * p + i + 14 = 14 * f + i by omega]
      · rw [a1 _ (by omega), if_neg (by omega), c57 _ (by omega), if_pos (by omega), show 7 * p + i + 7 = 7 * f + i by omega]
      · unfold zby
        rw [h56, c56 _ (by omega), if_pos (by omega), show 728 * p + a + 728 = 728 * f + a by omega]
    · refine zRP_congr (m := m0) (p := p) (hct p) ?_ ?_ ?_ (fun i h1 h2 => ?_) (fun i h1 h2 => ?_) (fun i h1 h2 => ?_) (fun a h1 h2 => ?_) (h p hp0 hp7)
      · rw [h51 p hp0, if_neg hp, c51 p hp0, if_neg (by omega)]
      · rw [h52 p hp0, if_neg hp, c52 p hp0, if_neg (by omega)]
      · rw [h53 p hp0, if_neg hp, c53 p hp0, if_neg (by omega)]
      · rw [a2 _ (by omega), if_neg (by omega), c54 _ (by omega), if_neg (by omega)]
      · rw [a3 _ (by omega), if_neg (by omega), c55 _ (by omega), if_neg (by omega)]
      · rw [a1 _ (by omega), if_neg (by omega), c57 _ (by omega), if_neg (by omega)]
      · unfold zby
        rw [h56, c56 _ (by omega), if_neg (by omega)]
/-- one more item cleared, by hand -/
theorem zEm_w {m0 m : wm} {f k q : Int} (h : zEm m0 m f k) (hk : 0 ≤ f ∧ 0 ≤ k) (hq : q = 7 * f + k) : zEm m0 (wuI (wuI (wuI (wuI m 54 0 q.toNat (-1)) 57 0 q.toNat 0) 55 0 (2 * q).toNat 0) 55 0 (2 * q + 1).toNat 0) f (k + 1) := by
  refine zEm_s h ⟨fun j hj => ?_, fun j hj => ?_, fun j hj => ?_⟩ hk
  · show (wuI (wuI m 54 0 q.toNat (-1)) 57 0 q.toNat 0).1 57 0 j.toNat = _
    rw [wuI_at (by omega) hj, hq]
    rfl
  · show (wuI m 54 0 q.toNat (-1)).1 54 0 j.toNat = _
    rw [wuI_at (by omega) hj, hq]
  · rw [wuI_at (by omega) hj, wuI_at (by omega) hj, hq]
    show (if j = 2 * (7 * f + k) + 1 then (0 : Int) else if j = 2 * (7 * f + k) then 0 else m.1 55 0 j.toNat) = _
    exact zif2
/-- how many files aren't held -/
def zcn (m : wm) : Nat := ((List.range 56).filter (fun j => decide (m.1 57 0 j ≠ 1))).length
theorem zcn_eq {m m' : wm} (h : m'.1 57 0 = m.1 57 0) : zcn m' = zcn m := by unfold zcn; rw [h]
theorem zcnt_le (g g' : Nat → Bool) (q : Nat) (hq : g q = true) (hq' : g' q = false) (h : ∀ j, j ≠ q → g' j = g j) : ∀ (l : List Nat), l.Nodup → q ∈ l → (l.filter g').length + 1 = (l.filter g).length := by
  intro l
  induction l with
  | nil => intro _ hm; cases hm
  | cons a l ih =>
    intro hn hm
    rw [List.nodup_cons] at hn
    by_cases ha : a = q
    · subst ha
      have e : l.filter g' = l.filter g := List.filter_congr (fun j hj => h j (fun z => hn.1 (z ▸ hj)))
      rw [List.filter_cons, List.filter_cons, hq, hq', e]
      simp
    · have hm' : q ∈ l := (List.mem_cons.mp hm).elim (fun z => absurd z.symm ha) id
      have := ih hn.2 hm'
      rw [List.filter_cons, List.filter_cons, h a ha]
      by_cases hg : g a = true
      · rw [hg]; simp; omega
      · rw [Bool.not_eq_true] at hg; rw [hg]; simpa using this
def zHo (m0 m : wm) (q : Int) : Prop := ∀ j : Int, 0 ≤ j → m.1 57 0 j.toNat = if j = q then 1 else m0.1 57 0 j.toNat
theorem zcn_lt {m0 m : wm} {q : Int} (h : zHo m0 m q) (hq : 0 ≤ q ∧ q < 56) (h0 : m0.1 57 0 q.toNat ≠ 1) : zcn m + 1 = zcn m0 := by
  unfold zcn
  refine zcnt_le (fun j => decide (m0.1 57 0 j ≠ 1)) (fun j => decide (m.1 57 0 j ≠ 1)) q.toNat (by simpa using h0) ?_ (fun j hj => ?_) (List.range 56) List.nodup_range (List.mem_range.mpr (by omega))
  · have e := h q hq.1
    rw [if_pos rfl] at e
    simp [e]
  · have e := h (j : Int) (by omega)
    rw [if_neg (by omega)] at e
    have e : m.1 57 0 j = m0.1 57 0 j := e
    simp [e]
theorem zRI_sz {m : wm} {f i X : Int} (h : zRI m) (hct : ∀ p : Int, m.1 52 0 p.toNat ≤ 6) (hp : 0 ≤ f ∧ f ≤ 7 ∧ 0 ≤ i ∧ i ≤ 6) (hc : m.1 54 0 (7 * f + i).toNat = X ∨ m.1 54 0 (7 * f + i).toNat < 0) : zRI (wuI m 54 0 (7 * f + i).toNat X) := by
  refine zRI_w54 h hct hp (hc.imp id (fun z => ?_))
  obtain ⟨a1, a2, a3, a4⟩ := h f hp.1 hp.2.1
  refine ⟨?_, fun z9 => by have := a2 i (by omega) (by omega) z9; omega⟩
  by_cases h1 : 1 ≤ i
  · exact Or.inl h1
  · refine Or.inr (fun z9 => ?_)
    have := (a1 z9).2.2.2
    rw [show i = 0 by omega, Int.add_zero] at z
    omega
theorem zRI_ng {m : wm} {f i b : Int} (h : zRI m) (hp : 0 ≤ f ∧ f ≤ 7 ∧ 0 ≤ i ∧ i ≤ 6 ∧ 0 ≤ b ∧ b ≤ 1) (hs : m.1 55 0 (2 * (7 * f + i) + b).toNat ≠ 1) (hb : b = 0 ∨ 64 < m.1 54 0 (7 * f + i).toNat) : 1 ≤ i ∨ m.1 51 0 f.toNat ≠ 1 := by
  by_cases h1 : 1 ≤ i
  · exact Or.inl h1
  · refine Or.inr (fun z => ?_)
    obtain ⟨b1, b2, b3, b4⟩ := (h f hp.1 hp.2.1).1 z
    rw [show i = 0 by omega, Int.add_zero, show 2 * (7 * f) = 14 * f by omega] at hs
    rw [show i = 0 by omega, Int.add_zero] at hb
    by_cases h2 : b = 0
    · rw [h2, Int.add_zero] at hs
      exact hs b2
    · rw [show b = 1 by omega] at hs
      rcases b3 with b3 | b3
      · omega
      · exact hs b3
