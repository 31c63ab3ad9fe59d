section ASND
variable {ρ : Nat → Int32}
theorem aG_int {a : aV} {v : Value} (h : aG ρ a v) (hi : aInt a = true) : ∃ x, v = .int x := by
  unfold aInt at hi
  split at hi
  · exact ⟨_, h⟩
  · cases hi
  · exact ⟨_, h⟩
  · obtain ⟨x, hx, -⟩ := h; exact ⟨x, hx⟩
  · cases hi
theorem aG_long {a : aV} {v : Value} (h : aG ρ a v) (hi : aLong a = true) : ∃ x, v = .long x := by
  unfold aLong at hi
  split at hi
  · exact ⟨_, h⟩
  · cases hi
  · cases hi
  · cases hi
  · obtain ⟨x, hx⟩ := h; exact ⟨x, hx⟩
theorem aG_cat {a : aV} {v : Value} (h : aG ρ a v) : v.category = acat a := by
  unfold aG at h
  split at h
  · rw [h]; rfl
  · rw [h]; rfl
  · obtain ⟨x, rfl, -⟩ := h; rfl
  · obtain ⟨x, rfl⟩ := h; rfl
theorem aG_top (x : Int32) : aG ρ aTop (.int x) := ⟨x, rfl, by have := Int32.le_toInt x; omega, by have := Int32.toInt_lt x; omega⟩
theorem aG_topL (x : Int64) : aG ρ aTopL (.long x) := ⟨x, rfl⟩
theorem aGs_cons {a : aV} {as : List aV} {st : List Value} (h : aGs ρ (a :: as) st) : ∃ v vs, st = v :: vs ∧ aG ρ a v ∧ aGs ρ as vs := by
  cases st with
  | nil => exact h.elim
  | cons v vs => exact ⟨v, vs, rfl, h⟩
theorem aGs_nil {st : List Value} (h : aGs ρ [] st) : st = [] := by
  cases st with
  | nil => rfl
  | cons v vs => exact h.elim
theorem aGs_len : ∀ {as : List aV} {vs : List Value}, aGs ρ as vs → as.length = vs.length
  | [], vs, h => by rw [aGs_nil h]; rfl
  | a :: as, vs, h => by
    obtain ⟨v, r, rfl, -, h2⟩ := aGs_cons h
    rw [List.length_cons, List.length_cons, aGs_len h2]
theorem aGs_w : ∀ {as : List aV} {vs : List Value}, aGs ρ as vs → xw vs = aw as
  | [], vs, h => by rw [aGs_nil h]; rfl
  | a :: as, vs, h => by
    obtain ⟨v, r, rfl, h1, h2⟩ := aGs_cons h
    have := aGs_w h2
    unfold xw aw at this ⊢
    rw [List.map_cons, List.map_cons, List.sum_cons, List.sum_cons, this, aG_cat h1]
theorem aGs_drop : ∀ (n : Nat) {as : List aV} {vs : List Value}, aGs ρ as vs → aGs ρ (as.drop n) (vs.drop n)
  | 0, as, vs, h => h
  | n + 1, [], vs, h => by rw [aGs_nil h]; exact trivial
  | n + 1, a :: as, vs, h => by
    obtain ⟨v, r, rfl, -, h2⟩ := aGs_cons h
    exact aGs_drop n h2
theorem aGs_take : ∀ (n : Nat) {as : List aV} {vs : List Value}, aGs ρ as vs → aGs ρ (as.take n) (vs.take n)
  | 0, as, vs, h => by rw [List.take_zero, List.take_zero]; exact trivial
  | n + 1, [], vs, h => by rw [aGs_nil h]; exact trivial
  | n + 1, a :: as, vs, h => by
    obtain ⟨v, r, rfl, h1, h2⟩ := aGs_cons h
    exact ⟨h1, aGs_take n h2⟩
theorem aGs_app : ∀ {as bs : List aV} {vs ws : List Value}, aGs ρ as vs → aGs ρ bs ws → aGs ρ (as ++ bs) (vs ++ ws)
  | [], bs, vs, ws, h, h' => by rw [aGs_nil h]; exact h'
  | a :: as, bs, vs, ws, h, h' => by
    obtain ⟨v, r, rfl, h1, h2⟩ := aGs_cons h
    exact ⟨h1, aGs_app h2 h'⟩
theorem aGs_rev : ∀ {as : List aV} {vs : List Value}, aGs ρ as vs → aGs ρ as.reverse vs.reverse
  | [], vs, h => by rw [aGs_nil h]; exact trivial
  | a :: as, vs, h => by
    obtain ⟨v, r, rfl, h1, h2⟩ := aGs_cons h
    rw [List.reverse_cons, List.reverse_cons]
    exact aGs_app (aGs_rev h2) ⟨h1, trivial⟩
theorem aGs_get : ∀ {as : List aV} {vs : List Value} {k : Nat} {a : aV}, aGs ρ as vs → as[k]? = some a → ∃ v, vs[k]? = some v ∧ aG ρ a v
  | [], vs, k, a, h, hk => by simp at hk
  | b :: as, vs, 0, a, h, hk => by
    obtain ⟨v, r, rfl, h1, h2⟩ := aGs_cons h
    cases hk
    exact ⟨v, rfl, h1⟩
  | b :: as, vs, k + 1, a, h, hk => by
    obtain ⟨v, r, rfl, h1, h2⟩ := aGs_cons h
    exact aGs_get (k := k) h2 hk
theorem aGs_set : ∀ {as : List aV} {vs : List Value} (k : Nat) {a : aV} {v : Value}, aGs ρ as vs → aG ρ a v → aGs ρ (as.set k a) (vs.set k v)
  | [], vs, k, a, v, h, hv => by rw [aGs_nil h]; exact trivial
  | b :: as, vs, 0, a, v, h, hv => by
    obtain ⟨w, r, rfl, h1, h2⟩ := aGs_cons h
    exact ⟨hv, h2⟩
  | b :: as, vs, k + 1, a, v, h, hv => by
    obtain ⟨w, r, rfl, h1, h2⟩ := aGs_cons h
    exact ⟨h1, aGs_set k h2 hv⟩
theorem aGs_inl : ∀ (vs : List Value), aGs ρ (vs.map .inl) vs
  | [] => trivial
  | v :: vs => ⟨rfl, aGs_inl vs⟩
theorem aGl_filter (p : Nat → Nat → Bool) : ∀ {l : aL} {l' : xL}, aGl ρ l l' → aGl ρ (l.filter (fun q => p q.1 (acat q.2))) (l'.filter (fun q => p q.1 q.2.category))
  | [], [], _ => trivial
  | a :: l, b :: l', h => by
    obtain ⟨h1, h2, h3⟩ := h
    rw [List.filter_cons, List.filter_cons, h1, aG_cat h2]
    split
    · exact ⟨h1, h2, aGl_filter p h3⟩
    · exact aGl_filter p h3
  | [], _ :: _, h => h.elim
  | _ :: _, [], h => h.elim
theorem aGl_find : ∀ {l : aL} {l' : xL} {i : Nat} {a : aV}, aGl ρ l l' → afind l i = some a → ∃ v, xfind l' i = some v ∧ aG ρ a v
  | [], [], i, a, h, hf => by cases hf
  | p :: l, (j, v) :: l', i, a, h, hf => by
    obtain ⟨h1, h2, h3⟩ := h
    unfold afind at hf
    unfold xfind
    have h1 : p.1 = j := h1
    rw [h1] at hf
    split at hf
    · cases hf; rename_i hj; rw [if_pos hj]; exact ⟨v, rfl, h2⟩
    · rename_i hj; rw [if_neg hj]; exact aGl_find h3 hf
  | [], _ :: _, i, a, h, hf => h.elim
  | _ :: _, [], i, a, h, hf => h.elim
theorem aGl_sto1 {l : aL} {l' : xL} {i : Nat} {a : aV} {v : Value} (h : aGl ρ l l') (hv : aG ρ a v) : aGl ρ (asto1 l i a) (xsto1 l' i v) :=
  ⟨rfl, hv, aGl_filter (fun a c => !(a == i) && !(a + 1 == i && c == 2)) h⟩
theorem aGl_sto2 {l : aL} {l' : xL} {i : Nat} {a : aV} {v : Value} (h : aGl ρ l l') (hv : aG ρ a v) : aGl ρ (asto2 l i a) (xsto2 l' i v) :=
  ⟨rfl, hv, aGl_filter (fun a c => !(a == i) && (!(a == i + 1) && !(a + 1 == i && c == 2))) h⟩
theorem aGl_fil {l : aL} {l' : xL} {i : Nat} (h : aGl ρ l l') : aGl ρ (afil l i) (xfil l' i) := aGl_filter (fun a c => !(a == i) && !(a + 1 == i && c == 2)) h
theorem aGl_args : ∀ (i : Nat) {as : List aV} {vs : List Value}, aGs ρ as vs → aGl ρ (aargl i as) (lv_args i vs)
  | i, [], vs, h => by rw [aGs_nil h]; exact trivial
  | i, a :: as, vs, h => by
    obtain ⟨v, r, rfl, h1, h2⟩ := aGs_cons h
    refine ⟨rfl, h1, ?_⟩
    rw [aG_cat h1]
    exact aGl_args _ h2
theorem aGe_set {E : aE} {k : Nat} {lo hi : Int} (h : aGe ρ E) (h1 : lo ≤ (ρ k).toInt) (h2 : (ρ k).toInt ≤ hi) : aGe ρ (E.set k (lo, hi)) := by
  intro j p hp
  rw [List.getElem?_set] at hp
  split at hp
  · rename_i hkj
    subst hkj
    split at hp
    · cases hp; exact ⟨h1, h2⟩
    · cases hp
  · exact h j p hp
theorem aG_nrm {E : aE} {a : aV} {v : Value} (hE : aGe ρ E) (h : aG ρ a v) : aG ρ (anrm E a) v := by
  unfold anrm
  split
  · rename_i k q
    split
    · rename_i p hp
      split
      · rename_i he
        obtain ⟨h1, h2⟩ := hE _ _ hp
        have h : v = .int (ρ k) := h
        show v = .int (Int32.ofInt p.1)
        rw [h, show p.1 = (ρ k).toInt by omega, Int32.ofInt_toInt]
      · exact h
    · exact h
  · exact h
/-! the heap -/
theorem aget_aset {h : List (List aC)} {k j : Nat} {c ca : aC} (hg : aget (aset h k c) j = some ca) : (j = k ∧ ca = c) ∨ (j ≠ k ∧ aget h j = some ca) := by
  unfold aget aset at hg
  unfold aget
  simp only [List.getD_eq_getElem?_getD] at hg ⊢
  rw [List.getElem?_set] at hg
  by_cases hq : k / 48 = j / 48
  · rw [if_pos hq] at hg
    split at hg
    · rw [Option.getD_some, List.getElem?_set] at hg
      split at hg
      · rename_i hr
        split at hg
        · cases hg; exact Or.inl ⟨by omega, rfl⟩
        · cases hg
      · rename_i hr
        rw [← hq]
        exact Or.inr ⟨fun h => hr (by rw [h]), hg⟩
    · simp at hg
  · rw [if_neg hq] at hg
    exact Or.inr ⟨fun h => hq (by rw [h]), hg⟩
theorem aGS_at {A : aS} {S : xS} {k : Nat} {ca : aC} (h : aGS ρ A S) (hk : aat A k = some ca) : ∃ c, xat S k = some c ∧ aGc ρ ca c := by
  unfold aat at hk
  unfold xat
  rw [← h.1]
  split at hk
  · rename_i hl; rw [if_pos hl]; exact h.2.2 k ca hk
  · cases hk
theorem aat_get {A : aS} {k : Nat} {ca : aC} (hk : aat A k = some ca) : aget A.2.2 k = some ca := by
  unfold aat at hk
  split at hk
  · exact hk
  · cases hk
theorem aGS_put {A : aS} {S : xS} {k : Nat} {c0 ca : aC} {c : xC} (h : aGS ρ A S) (hk : aat A k = some c0) (hc : aGc ρ ca c) : aGS ρ (aput A k ca) (xput S k c) := by
  obtain ⟨x0, hx0, -⟩ := h.2.2 k c0 (aat_get hk)
  refine ⟨h.1, h.2.1, fun j cj hj => ?_⟩
  rcases aget_aset hj with ⟨rfl, rfl⟩ | ⟨hne, hj⟩
  · exact ⟨c, xget_set_self hx0, hc⟩
  · obtain ⟨y, hy, hy2⟩ := h.2.2 j cj hj
    exact ⟨y, (xget_set_ne hne).trans hy, hy2⟩
theorem aGS_new {A A' : aS} {S : xS} {ca : aC} {c : xC} {w : Nat} (h : aGS ρ A S) (ha : anew A ca w = some A') (hc : aGc ρ ca c) : ∃ S', xnew S c w = some S' ∧ aGS ρ A' S' := by
  unfold anew at ha
  split at ha
  · rename_i c0 h0
    cases ha
    obtain ⟨x0, hx0, -⟩ := h.2.2 _ c0 h0
    rw [h.1] at hx0
    refine ⟨(S.1 + 1, S.2.1 + w, xset S.2.2 S.1 c), by unfold xnew; rw [hx0], ?_, ?_, fun j cj hj => ?_⟩
    · show A.1 + 1 = S.1 + 1; rw [h.1]
    · show A.2.1 + w = S.2.1 + w; rw [h.2.1]
    · have hj : aget (aset A.2.2 A.1 ca) j = some cj := hj
      show ∃ c_1, xget (xset S.2.2 S.1 c) j = some c_1 ∧ aGc ρ cj c_1
      rw [h.1] at hj
      rcases aget_aset hj with ⟨rfl, rfl⟩ | ⟨hne, hj⟩
      · exact ⟨c, xget_set_self hx0, hc⟩
      · obtain ⟨y, hy, hy2⟩ := h.2.2 j cj hj
        exact ⟨y, (xget_set_ne hne).trans hy, hy2⟩
  · cases ha
/-! frames -/
def aGF (ρ : Nat → Int32) (q : aE × aF) (fr : xF) : Prop := aGe ρ q.1 ∧ q.2.1 = fr.1 ∧ aGl ρ q.2.2.1 fr.2.1 ∧ aGs ρ q.2.2.2.1 fr.2.2.1 ∧ aGS ρ q.2.2.2.2 fr.2.2.2
theorem a1t {E : aE} {A : aS} {S : xS} {L : aL} {L' : xL} {n : Nat} {X : Option (List aV)} {Y : Option (List Value)} {frs : List (aE × aF)} (hE : aGe ρ E) (hL : aGl ρ L L') (hS : aGS ρ A S) (hXY : ∀ t, X = some t → ∃ t', Y = some t' ∧ aGs ρ t t')
    (h : a1 E (X.map fun t => (n, L, t, A)) = some frs) : ∃ q ∈ frs, ∃ fr, (Y.map fun t => ((n, L', t, S) : xF)) = some fr ∧ aGF ρ q fr := by
  cases hX : X with
  | none => rw [hX] at h; cases h
  | some t =>
    rw [hX] at h
    obtain ⟨t', ht', hg⟩ := hXY t hX
    cases h
    exact ⟨_, List.mem_singleton_self _, _, by rw [ht']; rfl, hE, rfl, hL, hg, hS⟩
theorem a1v {E : aE} {A : aS} {S : xS} {L : aL} {L' : xL} {n : Nat} {as : List aV} {st : List Value} {X : Option aV} {Y : Option Value} {frs : List (aE × aF)} (hE : aGe ρ E) (hL : aGl ρ L L') (hs : aGs ρ as st) (hS : aGS ρ A S) (hXY : ∀ t, X = some t → ∃ t', Y = some t' ∧ aG ρ t t')
    (h : a1 E (X.map fun t => (n, L, t :: as, A)) = some frs) : ∃ q ∈ frs, ∃ fr, (Y.map fun t => ((n, L', t :: st, S) : xF)) = some fr ∧ aGF ρ q fr := by
  cases hX : X with
  | none => rw [hX] at h; cases h
  | some t =>
    rw [hX] at h
    obtain ⟨t', ht', hg⟩ := hXY t hX
    cases h
    exact ⟨_, List.mem_singleton_self _, (n, L', t' :: st, S), by rw [ht']; rfl, hE, rfl, hL, ⟨hg, hs⟩, hS⟩
theorem a1l {E : aE} {A : aS} {S : xS} {n : Nat} {X : Option (aL × List aV)} {Y : Option (xL × List Value)} {frs : List (aE × aF)} (hE : aGe ρ E) (hS : aGS ρ A S) (hXY : ∀ t, X = some t → ∃ t', Y = some t' ∧ aGl ρ t.1 t'.1 ∧ aGs ρ t.2 t'.2)
    (h : a1 E (X.map fun q => (n, q.1, q.2, A)) = some frs) : ∃ q ∈ frs, ∃ fr, (Y.map fun q => ((n, q.1, q.2, S) : xF)) = some fr ∧ aGF ρ q fr := by
  cases hX : X with
  | none => rw [hX] at h; cases h
  | some t =>
    rw [hX] at h
    obtain ⟨t', ht', hg⟩ := hXY t hX
    cases h
    exact ⟨_, List.mem_singleton_self _, _, by rw [ht']; rfl, hE, rfl, hg.1, hg.2, hS⟩
theorem a1s {E : aE} {L : aL} {L' : xL} {n : Nat} {X : Option (List aV × aS)} {Y : Option (List Value × xS)} {frs : List (aE × aF)} (hE : aGe ρ E) (hL : aGl ρ L L') (hXY : ∀ t, X = some t → ∃ t', Y = some t' ∧ aGs ρ t.1 t'.1 ∧ aGS ρ t.2 t'.2)
    (h : a1 E (X.map fun q => (n, L, q.1, q.2)) = some frs) : ∃ q ∈ frs, ∃ fr, (Y.map fun q => ((n, L', q.1, q.2) : xF)) = some fr ∧ aGF ρ q fr := by
  cases hX : X with
  | none => rw [hX] at h; cases h
  | some t =>
    rw [hX] at h
    obtain ⟨t', ht', hg⟩ := hXY t hX
    cases h
    exact ⟨_, List.mem_singleton_self _, _, by rw [ht']; rfl, hE, rfl, hL, hg.1, hg.2⟩
theorem a1c {E : aE} {A : aS} {S : xS} {L : aL} {L' : xL} {n : Nat} {as : List aV} {st : List Value} {frs : List (aE × aF)} (hE : aGe ρ E) (hL : aGl ρ L L') (hs : aGs ρ as st) (hS : aGS ρ A S) (h : a1 E (some (n, L, as, A)) = some frs) : ∃ q ∈ frs, ∃ fr, some ((n, L', st, S) : xF) = some fr ∧ aGF ρ q fr := by
  cases h
  exact ⟨_, List.mem_singleton_self _, _, rfl, hE, rfl, hL, hs, hS⟩
/-! loads and stores of locals -/
theorem aldI_ok {E : aE} {l : aL} {l' : xL} {i : Nat} (hE : aGe ρ E) (h : aGl ρ l l') : ∀ a, aldI E l i = some a → ∃ v, xldI l' i = some v ∧ aG ρ a v := by
  intro a ha
  unfold aldI at ha
  split at ha
  · rename_i b hb
    split at ha
    · rename_i hi
      cases ha
      obtain ⟨v, hv, hg⟩ := aGl_find h hb
      obtain ⟨x, rfl⟩ := aG_int hg hi
      exact ⟨.int x, by unfold xldI; rw [hv], aG_nrm hE hg⟩
    · cases ha
  · cases ha
theorem aldL_ok {l : aL} {l' : xL} {i : Nat} (h : aGl ρ l l') : ∀ a, aldL l i = some a → ∃ v, xldL l' i = some v ∧ aG ρ a v := by
  intro a ha
  unfold aldL at ha
  split at ha
  · rename_i b hb
    split at ha
    · rename_i hi
      cases ha
      obtain ⟨v, hv, hg⟩ := aGl_find h hb
      obtain ⟨x, rfl⟩ := aG_long hg hi
      exact ⟨.long x, by unfold xldL; rw [hv], hg⟩
    · cases ha
  · cases ha
theorem aldA_ok {l : aL} {l' : xL} {i : Nat} (h : aGl ρ l l') : ∀ a, aldA l i = some a → ∃ v, xldA l' i = some v ∧ aG ρ a v := by
  intro a ha
  unfold aldA at ha
  split at ha
  · rename_i x hb
    cases ha
    obtain ⟨v, hv, hg⟩ := aGl_find h hb
    cases (show v = .ref x from hg)
    exact ⟨.ref x, by unfold xldA; rw [hv], rfl⟩
  · rename_i hb
    cases ha
    obtain ⟨v, hv, hg⟩ := aGl_find h hb
    cases (show v = .null from hg)
    exact ⟨.null, by unfold xldA; rw [hv], rfl⟩
  · rename_i x hb
    cases ha
    obtain ⟨v, hv, hg⟩ := aGl_find h hb
    cases (show v = .retAddr x from hg)
    exact ⟨.retAddr x, by unfold xldA; rw [hv], rfl⟩
  · cases ha
theorem astI_ok {l : aL} {l' : xL} {nL i : Nat} {as : List aV} {st : List Value} (h : aGl ρ l l') (hs : aGs ρ as st) : ∀ q, astI l nL i as = some q → ∃ q', xstI l' nL i st = some q' ∧ aGl ρ q.1 q'.1 ∧ aGs ρ q.2 q'.2 := by
  intro q hq
  unfold astI at hq
  split at hq
  · split at hq
    · rename_i hi
      rw [Bool.and_eq_true, decide_eq_true_eq] at hi
      cases hq
      obtain ⟨v, vs, rfl, h1, h2⟩ := aGs_cons hs
      obtain ⟨x, rfl⟩ := aG_int h1 hi.1
      exact ⟨_, by unfold xstI; dsimp only; rw [if_pos hi.2], aGl_sto1 h h1, h2⟩
    · cases hq
  · cases hq
theorem astL_ok {l : aL} {l' : xL} {nL i : Nat} {as : List aV} {st : List Value} (h : aGl ρ l l') (hs : aGs ρ as st) : ∀ q, astL l nL i as = some q → ∃ q', xstL l' nL i st = some q' ∧ aGl ρ q.1 q'.1 ∧ aGs ρ q.2 q'.2 := by
  intro q hq
  unfold astL at hq
  split at hq
  · split at hq
    · rename_i hi
      rw [Bool.and_eq_true, decide_eq_true_eq] at hi
      cases hq
      obtain ⟨v, vs, rfl, h1, h2⟩ := aGs_cons hs
      obtain ⟨x, rfl⟩ := aG_long h1 hi.1
      exact ⟨_, by unfold xstL; dsimp only; rw [if_pos hi.2], aGl_sto2 h h1, h2⟩
    · cases hq
  · cases hq
theorem astA_ok {l : aL} {l' : xL} {nL i : Nat} {as : List aV} {st : List Value} (h : aGl ρ l l') (hs : aGs ρ as st) : ∀ q, astA l nL i as = some q → ∃ q', xstA l' nL i st = some q' ∧ aGl ρ q.1 q'.1 ∧ aGs ρ q.2 q'.2 := by
  intro q hq
  unfold astA at hq
  split at hq
  · split at hq
    · rename_i hi
      cases hq
      obtain ⟨v, vs, rfl, h1, h2⟩ := aGs_cons hs
      cases (show v = _ from h1)
      exact ⟨_, by unfold xstA; dsimp only; rw [if_pos hi], aGl_sto1 h h1, h2⟩
    · cases hq
  · split at hq
    · rename_i hi
      cases hq
      obtain ⟨v, vs, rfl, h1, h2⟩ := aGs_cons hs
      cases (show v = _ from h1)
      exact ⟨_, by unfold xstA; dsimp only; rw [if_pos hi], aGl_sto1 h h1, h2⟩
    · cases hq
  · cases hq
/-! numbers -/
theorem aii_ok {f : Int32 → Int32 → Option Int32} {g : aV → aV → Option aV} {as : List aV} {st : List Value} (hg : ∀ (a b z : aV) (x y : Int32), g a b = some z → aG ρ a (.int x) → aG ρ b (.int y) → ∃ w, f x y = some w ∧ aG ρ z (.int w)) (hs : aGs ρ as st) : ∀ t, aii as f g = some t → ∃ t', xii st f = some t' ∧ aGs ρ t t' := by
  intro t h
  unfold aii at h
  split at h
  · obtain ⟨v1, _, rfl, h1, hs⟩ := aGs_cons hs
    obtain ⟨v2, r, rfl, h2, h3⟩ := aGs_cons hs
    cases (show v1 = _ from h1)
    cases (show v2 = _ from h2)
    obtain ⟨z, hz, rfl⟩ := Option.map_eq_some_iff.mp h
    exact ⟨.int z :: r, by unfold xii; dsimp only; rw [hz]; rfl, rfl, h3⟩
  · obtain ⟨v1, _, rfl, h1, hs⟩ := aGs_cons hs
    obtain ⟨v2, r, rfl, h2, h3⟩ := aGs_cons hs
    split at h
    · rename_i hab
      rw [Bool.and_eq_true] at hab
      obtain ⟨x, rfl⟩ := aG_int h2 hab.1
      obtain ⟨y, rfl⟩ := aG_int h1 hab.2
      obtain ⟨z, hz, rfl⟩ := Option.map_eq_some_iff.mp h
      obtain ⟨w, hw, hz'⟩ := hg _ _ z x y hz h2 h1
      exact ⟨.int w :: r, by unfold xii; dsimp only; rw [hw]; rfl, hz', h3⟩
    · cases h
  · cases h
theorem gTop_ok {f : Int32 → Int32 → Int32} : ∀ (a b z : aV) (x y : Int32), gTop a b = some z → aG ρ a (.int x) → aG ρ b (.int y) → ∃ w, some (f x y) = some w ∧ aG ρ z (.int w) := by
  intro a b z x y h _ _
  cases h
  exact ⟨_, rfl, aG_top _⟩
theorem gAdd_ok : ∀ (a b z : aV) (x y : Int32), gAdd a b = some z → aG ρ a (.int x) → aG ρ b (.int y) → ∃ w, some (x + y) = some w ∧ aG ρ z (.int w) := by
  intro a b z x y h ha hb
  refine ⟨_, rfl, ?_⟩
  unfold gAdd at h
  split at h
  · have ha : Value.int x = .int _ := ha
    cases ha
    split at h
    · rename_i h0; cases h; rw [h0, Int32.zero_add]; exact hb
    · cases h; exact aG_top _
  · have hb : Value.int y = .int _ := hb
    cases hb
    split at h
    · rename_i h0; cases h; rw [h0, Int32.add_zero]; exact ha
    · cases h; exact aG_top _
  · cases h; exact aG_top _
theorem and_bound {x y : Int32} (h : 0 ≤ x) : 0 ≤ (x &&& y).toInt ∧ (x &&& y).toInt ≤ x.toInt := by
  have h0 : (0 : Int) ≤ x.toInt := by have := Int32.le_iff_toInt_le.mp h; simpa using this
  have e1 : x.toInt = x.toBitVec.toInt := rfl
  have e2 : (x &&& y).toInt = (x.toBitVec &&& y.toBitVec).toInt := rfl
  have hl : (x.toBitVec &&& y.toBitVec).toNat ≤ x.toBitVec.toNat := by rw [BitVec.toNat_and]; exact Nat.and_le_left
  have hx := x.toBitVec.isLt
  rw [e1] at h0
  rw [e2, e1]
  rw [BitVec.toInt_eq_toNat_cond] at h0
  rw [BitVec.toInt_eq_toNat_cond, BitVec.toInt_eq_toNat_cond]
  split at h0
  · rename_i hc
    rw [if_pos (by omega), if_pos hc]
    omega
  · omega
theorem gAnd_ok : ∀ (a b z : aV) (x y : Int32), gAnd a b = some z → aG ρ a (.int x) → aG ρ b (.int y) → ∃ w, some (x &&& y) = some w ∧ aG ρ z (.int w) := by
  intro a b z x y h ha hb
  refine ⟨_, rfl, ?_⟩
  unfold gAnd at h
  split at h
  · have ha : Value.int x = .int _ := ha
    cases ha
    split at h
    · rename_i h0; cases h; exact ⟨_, rfl, (and_bound h0).1, (and_bound h0).2⟩
    · cases h; exact aG_top _
  · have hb : Value.int y = .int _ := hb
    cases hb
    split at h
    · rename_i h0; cases h; exact ⟨_, rfl, by rw [Int32.and_comm]; exact (and_bound h0).1, by rw [Int32.and_comm]; exact (and_bound h0).2⟩
    · cases h; exact aG_top _
  · cases h; exact aG_top _
theorem gDiv_ok {f : Int32 → Int32 → Int32} : ∀ (a b z : aV) (x y : Int32), gDiv a b = some z → aG ρ a (.int x) → aG ρ b (.int y) → ∃ w, (if y = 0 then none else some (f x y)) = some w ∧ aG ρ z (.int w) := by
  intro a b z x y h ha hb
  unfold gDiv at h
  split at h
  · have hb : Value.int y = .int _ := hb
    cases hb
    split at h
    · cases h
    · rename_i h0; cases h; exact ⟨_, if_neg h0, aG_top _⟩
  · cases h
theorem all2_ok {f : Int64 → Int64 → Value} {tp : aV} {as : List aV} {st : List Value} (ht : ∀ x y, aG ρ tp (f x y)) (hs : aGs ρ as st) : ∀ t, all2 as f tp = some t → ∃ t', xll st f = some t' ∧ aGs ρ t t' := by
  intro t h
  unfold all2 at h
  split at h
  · obtain ⟨v1, _, rfl, h1, hs⟩ := aGs_cons hs
    obtain ⟨v2, r, rfl, h2, h3⟩ := aGs_cons hs
    cases (show v1 = _ from h1)
    cases (show v2 = _ from h2)
    cases h
    exact ⟨_, rfl, rfl, h3⟩
  · obtain ⟨v1, _, rfl, h1, hs⟩ := aGs_cons hs
    obtain ⟨v2, r, rfl, h2, h3⟩ := aGs_cons hs
    split at h
    · rename_i hab
      rw [Bool.and_eq_true] at hab
      obtain ⟨x, rfl⟩ := aG_long h2 hab.1
      obtain ⟨y, rfl⟩ := aG_long h1 hab.2
      cases h
      exact ⟨_, rfl, ht _ _, h3⟩
    · cases h
  · cases h
theorem ali_ok {f : Int64 → Int32 → Value} {tp : aV} {as : List aV} {st : List Value} (ht : ∀ x y, aG ρ tp (f x y)) (hs : aGs ρ as st) : ∀ t, ali as f tp = some t → ∃ t', xli st f = some t' ∧ aGs ρ t t' := by
  intro t h
  unfold ali at h
  split at h
  · obtain ⟨v1, _, rfl, h1, hs⟩ := aGs_cons hs
    obtain ⟨v2, r, rfl, h2, h3⟩ := aGs_cons hs
    cases (show v1 = _ from h1)
    cases (show v2 = _ from h2)
    cases h
    exact ⟨_, rfl, rfl, h3⟩
  · obtain ⟨v1, _, rfl, h1, hs⟩ := aGs_cons hs
    obtain ⟨v2, r, rfl, h2, h3⟩ := aGs_cons hs
    split at h
    · rename_i hab
      rw [Bool.and_eq_true] at hab
      obtain ⟨x, rfl⟩ := aG_long h2 hab.1
      obtain ⟨y, rfl⟩ := aG_int h1 hab.2
      cases h
      exact ⟨_, rfl, ht _ _, h3⟩
    · cases h
  · cases h
theorem ai1_ok {f : Int32 → Value} {tp : aV} {as : List aV} {st : List Value} (ht : ∀ x, aG ρ tp (f x)) (hs : aGs ρ as st) : ∀ t, ai1 as f tp = some t → ∃ t', xi1 st f = some t' ∧ aGs ρ t t' := by
  intro t h
  unfold ai1 at h
  split at h
  · obtain ⟨v1, _, rfl, h1, h3⟩ := aGs_cons hs
    cases (show v1 = _ from h1)
    cases h
    exact ⟨_, rfl, rfl, h3⟩
  · obtain ⟨v1, _, rfl, h1, h3⟩ := aGs_cons hs
    split at h
    · rename_i hab
      obtain ⟨x, rfl⟩ := aG_int h1 hab
      cases h
      exact ⟨_, rfl, ht _, h3⟩
    · cases h
  · cases h
theorem al1_ok {f : Int64 → Value} {tp : aV} {as : List aV} {st : List Value} (ht : ∀ x, aG ρ tp (f x)) (hs : aGs ρ as st) : ∀ t, al1 as f tp = some t → ∃ t', xl1 st f = some t' ∧ aGs ρ t t' := by
  intro t h
  unfold al1 at h
  split at h
  · obtain ⟨v1, _, rfl, h1, h3⟩ := aGs_cons hs
    cases (show v1 = _ from h1)
    cases h
    exact ⟨_, rfl, rfl, h3⟩
  · obtain ⟨v1, _, rfl, h1, h3⟩ := aGs_cons hs
    split at h
    · rename_i hab
      obtain ⟨x, rfl⟩ := aG_long h1 hab
      cases h
      exact ⟨_, rfl, ht _, h3⟩
    · cases h
  · cases h
end ASND
