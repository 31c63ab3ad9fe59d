section ASND2
variable {ρ : Nat → Int32}
theorem aspl_ok {E : aE} {k : Nat} {p : Int × Int} (y : Int) (hE : aGe ρ E) (hk : E[k]? = some p) : ∃ q ∈ aspl E k p y, aGe ρ q.1 ∧ (q.2 = -1 ∧ (ρ k).toInt < y ∨ q.2 = 0 ∧ (ρ k).toInt = y ∨ q.2 = 1 ∧ y < (ρ k).toInt) := by
  obtain ⟨h1, h2⟩ := hE k p hk
  unfold aspl
  rcases Int.lt_trichotomy (ρ k).toInt y with h | h | h
  · rw [if_pos (show p.1 < y by omega)]
    exact ⟨_, List.mem_append_left _ (List.mem_singleton_self _), aGe_set hE h1 (by omega), Or.inl ⟨rfl, h⟩⟩
  · rw [if_pos (show p.1 ≤ y ∧ y ≤ p.2 by omega)]
    exact ⟨_, List.mem_append_right _ (List.mem_append_left _ (List.mem_singleton_self _)), aGe_set hE (by omega) (by omega), Or.inr (Or.inl ⟨rfl, h⟩)⟩
  · rw [if_pos (show y < p.2 by omega)]
    exact ⟨_, List.mem_append_right _ (List.mem_append_right _ (List.mem_singleton_self _)), aGe_set hE (by omega) h2, Or.inr (Or.inr ⟨rfl, h⟩)⟩
theorem acs_lt {c : ClassFile.Cond} {x y : Int32} (h : x.toInt < y.toInt) : acs c (-1) = xcmp c x y := by
  have h1 : x < y := Int32.lt_iff_toInt_lt.mpr h
  have h2 : ¬ x = y := fun e => by rw [e] at h; omega
  have h3 : ¬ y ≤ x := fun e => by have := Int32.le_iff_toInt_le.mp e; omega
  have h4 : ¬ y < x := fun e => by have := Int32.lt_iff_toInt_lt.mp e; omega
  have h5 : x ≤ y := Int32.le_iff_toInt_le.mpr (by omega)
  cases c <;> simp [acs, xcmp, h1, h2, h3, h4, h5]
theorem acs_eq {c : ClassFile.Cond} {x y : Int32} (h : x.toInt = y.toInt) : acs c 0 = xcmp c x y := by
  have h2 : x = y := Int32.toInt_inj.mp h
  subst h2
  have h1 : ¬ x < x := fun e => by have := Int32.lt_iff_toInt_lt.mp e; omega
  have h5 : x ≤ x := Int32.le_iff_toInt_le.mpr (by omega)
  cases c <;> simp [acs, xcmp, h1, h5]
theorem acs_gt {c : ClassFile.Cond} {x y : Int32} (h : y.toInt < x.toInt) : acs c 1 = xcmp c x y := by
  have h1 : y < x := Int32.lt_iff_toInt_lt.mpr h
  have h2 : ¬ x = y := fun e => by rw [e] at h; omega
  have h3 : ¬ x ≤ y := fun e => by have := Int32.le_iff_toInt_le.mp e; omega
  have h4 : ¬ x < y := fun e => by have := Int32.lt_iff_toInt_lt.mp e; omega
  have h5 : y ≤ x := Int32.le_iff_toInt_le.mpr (by omega)
  cases c <;> simp [acs, xcmp, h1, h2, h3, h4, h5]
theorem acmp_ok {E : aE} {c : ClassFile.Cond} {a b : aV} {v w : Value} {qs : List (aE × Bool)} (hE : aGe ρ E) (ha : aG ρ a v) (hb : aG ρ b w) (h : acmp E c a b = some qs) : ∃ (x y : Int32), v = .int x ∧ w = .int y ∧ ∃ q ∈ qs, aGe ρ q.1 ∧ q.2 = xcmp c x y := by
  unfold acmp at h
  split at h
  · cases h
    exact ⟨_, _, ha, hb, _, List.mem_singleton_self _, hE, rfl⟩
  · rename_i k z y
    split at h
    · rename_i p hp
      cases h
      refine ⟨_, _, ha, hb, ?_⟩
      obtain ⟨q, hq, hq1, hq2⟩ := aspl_ok y.toInt hE hp
      refine ⟨_, List.mem_map.mpr ⟨q, hq, rfl⟩, hq1, ?_⟩
      show acs c q.2 = _
      rcases hq2 with ⟨e, h⟩ | ⟨e, h⟩ | ⟨e, h⟩
      · rw [e]; exact acs_lt h
      · rw [e]; exact acs_eq h
      · rw [e]; exact acs_gt h
    · cases h
  · rename_i x k z
    split at h
    · rename_i p hp
      cases h
      refine ⟨_, _, ha, hb, ?_⟩
      obtain ⟨q, hq, hq1, hq2⟩ := aspl_ok x.toInt hE hp
      refine ⟨_, List.mem_map.mpr ⟨q, hq, rfl⟩, hq1, ?_⟩
      show acs c (-q.2) = _
      rcases hq2 with ⟨e, h⟩ | ⟨e, h⟩ | ⟨e, h⟩
      · rw [e]; exact acs_gt h
      · rw [e]; exact acs_eq h.symm
      · rw [e]; exact acs_lt h
    · cases h
  · split at h
    · rename_i hab
      rw [Bool.and_eq_true] at hab
      obtain ⟨x, rfl⟩ := aG_int ha hab.1
      obtain ⟨y, rfl⟩ := aG_int hb hab.2
      cases h
      refine ⟨x, y, rfl, rfl, ?_⟩
      cases hc : xcmp c x y
      · exact ⟨(E, false), by simp, hE, rfl⟩
      · exact ⟨(E, true), by simp, hE, rfl⟩
    · cases h
theorem aif_ok {E : aE} {c : ClassFile.Cond} {pc : Nat} {off : Int} {a b : aV} {v w : Value} {L : aL} {L' : xL} {as : List aV} {st : List Value} {A : aS} {S : xS} {frs : List (aE × aF)} (hE : aGe ρ E) (hL : aGl ρ L L') (hs : aGs ρ as st) (hS : aGS ρ A S) (ha : aG ρ a v) (hb : aG ρ b w) (h : aif E c pc off a b L as A = some frs) :
    ∃ (x y : Int32) (t : Nat), v = .int x ∧ w = .int y ∧ xtg pc off = some t ∧ ∃ q ∈ frs, aGF ρ q ((bif xcmp c x y then t else pc + 3), L', st, S) := by
  unfold aif at h
  split at h
  · rename_i t qs ht hq
    cases h
    obtain ⟨x, y, hx, hy, q, hq1, hq2, hq3⟩ := acmp_ok hE ha hb hq
    exact ⟨x, y, t, hx, hy, ht, _, List.mem_map.mpr ⟨q, hq1, rfl⟩, hq2, by rw [← hq3], hL, hs, hS⟩
  · cases h
theorem aall_ok {α β : Type} {f : α → Option (List β)} : ∀ {l : List α} {bs : List β}, aall f l = some bs → ∀ a ∈ l, ∃ cs, f a = some cs ∧ ∀ c ∈ cs, c ∈ bs
  | [], bs, _, a, ha => by cases ha
  | b :: l, bs, h, a, ha => by
    unfold aall at h
    split at h
    · rename_i xs hx
      split at h
      · rename_i ys hy
        cases h
        rcases List.mem_cons.mp ha with rfl | ha
        · exact ⟨xs, hx, fun c hc => List.mem_append_left _ hc⟩
        · obtain ⟨cs, h1, h2⟩ := aall_ok hy a ha
          exact ⟨cs, h1, fun c hc => List.mem_append_right _ (h2 c hc)⟩
      · cases h
    · cases h
theorem agap_ok : ∀ (ks : List Int) (lo hi x : Int), lo ≤ x → x ≤ hi → ∃ q ∈ agap ks lo hi, q.1 ≤ x ∧ x ≤ q.2
  | [], lo, hi, x, h1, h2 => ⟨(lo, hi), List.mem_singleton_self _, h1, h2⟩
  | k :: ks, lo, hi, x, h1, h2 => by
    unfold agap
    split
    · exact ⟨(lo, hi), List.mem_singleton_self _, h1, h2⟩
    · split
      · exact agap_ok ks lo hi x h1 h2
      · rcases Int.lt_trichotomy x k with h | h | h
        · exact ⟨(lo, k - 1), List.mem_cons_self, h1, by show x ≤ k - 1; omega⟩
        · exact ⟨(k, k), List.mem_cons_of_mem _ List.mem_cons_self, by show k ≤ x; omega, by show x ≤ k; omega⟩
        · obtain ⟨q, hq, h3⟩ := agap_ok ks (k + 1) hi x (by omega) h2
          exact ⟨q, List.mem_cons_of_mem _ (List.mem_cons_of_mem _ hq), h3⟩
theorem asw_ok {E : aE} {ks : List Int} {g : Int × Int → Option Nat} {tg : Int32 → Option Nat} {L : aL} {L' : xL} {as : List aV} {st : List Value} {A : aS} {S : xS} {frs : List (aE × aF)} (hE : aGe ρ E) (hL : aGl ρ L L') (hs : aGs ρ as st) (hS : aGS ρ A S) (hg : ∀ (q : Int × Int) (t : Nat) (x : Int32), g q = some t → q.1 ≤ x.toInt → x.toInt ≤ q.2 → tg x = some t) (h : asw E ks g L as A = some frs) :
    ∃ (x : Int32) (r : List Value) (t : Nat), st = .int x :: r ∧ tg x = some t ∧ ∃ q ∈ frs, aGF ρ q (t, L', r, S) := by
  unfold asw at h
  split at h
  · rename_i x r
    obtain ⟨v, r', rfl, h1, h2⟩ := aGs_cons hs
    obtain ⟨t, ht, rfl⟩ := Option.map_eq_some_iff.mp h
    exact ⟨x, r', t, by rw [show v = _ from h1], hg _ t x ht (Int.le_refl _) (Int.le_refl _), _, List.mem_singleton_self _, hE, rfl, hL, h2, hS⟩
  · rename_i k z r
    obtain ⟨v, r', rfl, h1, h2⟩ := aGs_cons hs
    split at h
    · rename_i p hp
      obtain ⟨hb1, hb2⟩ := hE k p hp
      obtain ⟨q, hq, hq1, hq2⟩ := agap_ok ks p.1 p.2 (ρ k).toInt hb1 hb2
      obtain ⟨cs, hc, hcs⟩ := aall_ok h q hq
      rw [if_neg (by omega)] at hc
      obtain ⟨t, ht, rfl⟩ := Option.map_eq_some_iff.mp hc
      exact ⟨ρ k, r', t, by rw [show v = _ from h1], hg _ t _ ht hq1 hq2, _, hcs _ (List.mem_singleton_self _), aGe_set hE hq1 hq2, rfl, hL, h2, hS⟩
    · cases h
  · rename_i k lo hi r
    obtain ⟨v, r', rfl, h1, h2⟩ := aGs_cons hs
    obtain ⟨x, rfl, hb1, hb2⟩ := h1
    obtain ⟨q, hq, hq1, hq2⟩ := agap_ok ks lo hi x.toInt hb1 hb2
    obtain ⟨cs, hc, hcs⟩ := aall_ok h q hq
    rw [if_neg (by omega)] at hc
    obtain ⟨t, ht, rfl⟩ := Option.map_eq_some_iff.mp hc
    exact ⟨x, r', t, rfl, hg _ t _ ht hq1 hq2, _, hcs _ (List.mem_singleton_self _), hE, rfl, hL, h2, hS⟩
  · cases h
theorem atab_ok {d lo hi : Int} {offs : Array Int} {pc : Nat} (q : Int × Int) (t : Nat) (x : Int32) (h : atab d lo hi offs pc q = some t) (h1 : q.1 ≤ x.toInt) (h2 : x.toInt ≤ q.2) : ∀ r : List Value, xtab d lo hi offs pc (.int x :: r) = some (t, r) := by
  intro r
  unfold atab at h
  unfold xtab
  dsimp only
  split at h
  · rw [if_pos (by omega), h]; rfl
  · split at h
    · rename_i hn he
      rw [if_neg (by omega), show x.toInt = q.1 by omega]
      split at h
      · rename_i off ho
        rw [ho]
        dsimp only
        rw [h]; rfl
      · cases h
    · cases h
theorem look_none {x : Int} {d : Int} : ∀ (l : List (Int × Int)), (∀ q ∈ l, q.1 ≠ x) → Op.lookupswitch.offset l d x = d
  | [], _ => rfl
  | (a, o) :: l, h => by
    rw [Op.lookupswitch.offset_cons, if_neg (h (a, o) List.mem_cons_self)]
    exact look_none l fun q hq => h q (List.mem_cons_of_mem _ hq)
theorem alook_ok {d : Int} {ps : Array (Int × Int)} {pc : Nat} (q : Int × Int) (t : Nat) (x : Int32) (h : alook d ps pc q = some t) (h1 : q.1 ≤ x.toInt) (h2 : x.toInt ≤ q.2) : ∀ r : List Value, xlook d ps pc (.int x :: r) = some (t, r) := by
  intro r
  unfold alook at h
  unfold xlook
  dsimp only
  split at h
  · rename_i hp
    rw [if_pos hp]
    split at h
    · rename_i ha
      rw [look_none ps.toList (fun p9 hp9 he => by
        have := List.all_eq_true.mp ha p9 hp9
        rw [Bool.or_eq_true, decide_eq_true_eq, decide_eq_true_eq] at this
        omega), h]; rfl
    · split at h
      · rw [show x.toInt = q.1 by omega, h]; rfl
      · cases h
  · cases h
theorem xin_of {x : Int32} {n : Nat} (h1 : 0 ≤ x.toInt) (h2 : x.toInt < n) : xin x n = true := by
  unfold xin
  have h3 : ¬ x < 0 := fun e => by have := Int32.lt_iff_toInt_lt.mp e; simp at this; omega
  have h4 : x.toNatClampNeg = x.toInt.toNat := rfl
  rw [Bool.and_eq_true, h4]
  exact ⟨by rw [decide_eq_false h3]; rfl, decide_eq_true (by omega)⟩
theorem xin_lt {x : Int32} {n : Nat} (h : xin x n = true) : x.toNatClampNeg < n := by
  unfold xin at h
  rw [Bool.and_eq_true, decide_eq_true_eq] at h
  exact h.2
theorem ard_ok {E : aE} {i : aV} {v : Value} {n : Nat} {g : Nat → Option aV} {pc : Nat} {L : aL} {L' : xL} {as : List aV} {st : List Value} {A : aS} {S : xS} {frs : List (aE × aF)} {el : Nat → Value} (hE : aGe ρ E) (hL : aGl ρ L L') (hs : aGs ρ as st) (hS : aGS ρ A S) (hi : aG ρ i v) (hg : ∀ (j : Nat) (a : aV), j < n → g j = some a → aG ρ a (el j)) (h : ard E i n g pc L as A = some frs) :
    ∃ x : Int32, v = .int x ∧ xin x n = true ∧ ∃ q ∈ frs, aGF ρ q (pc + 1, L', el x.toNatClampNeg :: st, S) := by
  unfold ard at h
  split at h
  · rename_i x
    split at h
    · rename_i hx
      obtain ⟨a, ha, rfl⟩ := Option.map_eq_some_iff.mp h
      exact ⟨x, hi, hx, _, List.mem_singleton_self _, hE, rfl, hL, ⟨aG_nrm hE (hg _ a (xin_lt hx) ha), hs⟩, hS⟩
    · cases h
  · rename_i k z
    split at h
    · rename_i p hp
      obtain ⟨hb1, hb2⟩ := hE k p hp
      split at h
      · rename_i hc
        have hx : xin (ρ k) n = true := xin_of (by omega) (by omega)
        have hj : (ρ k).toNatClampNeg = (ρ k).toInt.toNat := rfl
        obtain ⟨cs, hcs1, hcs2⟩ := aall_ok h (ρ k).toNatClampNeg (List.mem_range.mpr (by omega))
        rw [if_neg (by omega)] at hcs1
        obtain ⟨a, ha, rfl⟩ := Option.map_eq_some_iff.mp hcs1
        exact ⟨ρ k, hi, hx, _, hcs2 _ (List.mem_singleton_self _), aGe_set hE (by omega) (by omega), rfl, hL, ⟨hg _ a (xin_lt hx) ha, hs⟩, hS⟩
      · cases h
    · cases h
  · cases h
theorem awr_ok {E : aE} {i v t d : aV} {us : List (Nat × aV)} {n : Nat} {iv w : Value} {q : aV × List (Nat × aV)} {el el' : Nat → Value} (hE : aGe ρ E) (hi : aG ρ i iv) (h : awr E i n v t d us = some q) :
    ∃ x : Int32, iv = .int x ∧ xin x n = true ∧ ((∀ j, True → aG ρ (aLk d us j) (el j)) → aG ρ v (el' x.toNatClampNeg) → (∀ j, aG ρ t (el' j)) → (∀ j, j ≠ x.toNatClampNeg → el' j = el j) → ∀ j, True → aG ρ (aLk q.1 q.2 j) (el' j)) := by
  unfold awr at h
  split at h
  · rename_i x
    split at h
    · rename_i hx
      cases h
      refine ⟨x, hi, hx, fun h1 h2 _ h3 j hj => ?_⟩
      show aG ρ (if x.toNatClampNeg = j then v else aLk d us j) (el' j)
      split
      · rename_i e; rw [← e]; exact h2
      · rename_i e; rw [h3 j (fun q => e q.symm)]; exact h1 j hj
    · cases h
  · split at h
    · rename_i hx
      cases h
      have key : ∃ x : Int32, iv = .int x ∧ xin x n = true := by
        unfold aidx at hx
        split at hx
        · rename_i k z w9
          split at hx
          · rename_i p hp
            obtain ⟨hb1, hb2⟩ := hE k p hp
            rw [Bool.and_eq_true, decide_eq_true_eq, decide_eq_true_eq] at hx
            exact ⟨ρ k, hi, xin_of (by omega) (by omega)⟩
          · cases hx
        · obtain ⟨x, hv, hb1, hb2⟩ := hi
          rw [Bool.and_eq_true, decide_eq_true_eq, decide_eq_true_eq] at hx
          exact ⟨x, hv, xin_of (by omega) (by omega)⟩
        · cases hx
      obtain ⟨x, hv, hx⟩ := key
      exact ⟨x, hv, hx, fun _ _ ht _ j _ => ht j⟩
    · cases h
end ASND2
