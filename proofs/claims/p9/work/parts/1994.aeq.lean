section AEQ
def veq (a b : Value) : Bool := match a, b with
  | .int x, .int y => decide (x = y)
  | .long x, .long y => decide (x = y)
  | .ref x, .ref y => decide (x = y)
  | .null, .null => true
  | .retAddr x, .retAddr y => decide (x = y)
  | _, _ => false
theorem veq_ok (a b : Value) (h : veq a b = true) : a = b := by
  unfold veq at h
  split at h
  · rw [of_decide_eq_true h]
  · rw [of_decide_eq_true h]
  · rw [of_decide_eq_true h]
  · rfl
  · rw [of_decide_eq_true h]
  · cases h
def aVq (a b : aV) : Bool := match a, b with
  | .inl v, .inl w => veq v w
  | .inr p, .inr q => decide (p = q)
  | _, _ => false
theorem aVq_ok (a b : aV) (h : aVq a b = true) : a = b := by
  unfold aVq at h
  split at h
  · rw [veq_ok _ _ h]
  · rw [of_decide_eq_true h]
  · cases h
def lq {α : Type} (f : α → α → Bool) : List α → List α → Bool
  | [], [] => true
  | a :: l, b :: l' => f a b && lq f l l'
  | [], _ :: _ => false
  | _ :: _, [] => false
theorem lq_ok {α : Type} {f : α → α → Bool} (hf : ∀ a b, f a b = true → a = b) : ∀ (l l' : List α), lq f l l' = true → l = l'
  | [], [], _ => rfl
  | a :: l, b :: l', h => by
    have h : (f a b && lq f l l') = true := h
    rw [Bool.and_eq_true] at h
    rw [hf a b h.1, lq_ok hf l l' h.2]
  | [], _ :: _, h => by cases h
  | _ :: _, [], h => by cases h
def nVq (p q : Nat × aV) : Bool := decide (p.1 = q.1) && aVq p.2 q.2
theorem nVq_ok (p q : Nat × aV) (h : nVq p q = true) : p = q := by
  unfold nVq at h
  rw [Bool.and_eq_true, decide_eq_true_eq] at h
  exact Prod.ext h.1 (aVq_ok _ _ h.2)
def aCq (a b : aC) : Bool := match a, b with
  | .inl (t, n, d, us), .inl (t', n', d', us') => decide (t = t') && (decide (n = n') && (aVq d d' && lq nVq us us'))
  | .inr none, .inr none => true
  | .inr (some (c, fs)), .inr (some (c', fs')) => decide (c = c') && lq aVq fs fs'
  | _, _ => false
theorem aCq_ok (a b : aC) (h : aCq a b = true) : a = b := by
  unfold aCq at h
  split at h
  · rw [Bool.and_eq_true, Bool.and_eq_true, Bool.and_eq_true, decide_eq_true_eq, decide_eq_true_eq] at h
    rw [h.1, h.2.1, aVq_ok _ _ h.2.2.1, lq_ok nVq_ok _ _ h.2.2.2]
  · rfl
  · rw [Bool.and_eq_true, decide_eq_true_eq] at h
    rw [h.1, lq_ok aVq_ok _ _ h.2]
  · cases h
def aFq (p q : aE × aF) : Bool := decide (p.1 = q.1) && (decide (p.2.1 = q.2.1) && (lq nVq p.2.2.1 q.2.2.1 && (lq aVq p.2.2.2.1 q.2.2.2.1 && (decide (p.2.2.2.2.1 = q.2.2.2.2.1) && (decide (p.2.2.2.2.2.1 = q.2.2.2.2.2.1) && lq (lq aCq) p.2.2.2.2.2.2 q.2.2.2.2.2.2)))))
theorem aFq_ok (p q : aE × aF) (h : aFq p q = true) : p = q := by
  unfold aFq at h
  simp only [Bool.and_eq_true, decide_eq_true_eq] at h
  obtain ⟨h1, h2, h3, h4, h5, h6, h7⟩ := h
  exact Prod.ext h1 (Prod.ext h2 (Prod.ext (lq_ok nVq_ok _ _ h3) (Prod.ext (lq_ok aVq_ok _ _ h4) (Prod.ext h5 (Prod.ext h6 (lq_ok (fun a b h => lq_ok aCq_ok a b h) _ _ h7))))))
theorem ago_lit {P : xPk} {N : Option Nat} {M : xM} {ex : aE → Nat → List aV → aS → Option (List aR)} {n : Nat} {p q : aE × aF} (h : (match ago P N M ex n p with
    | some r => aFq r q
    | none => false) = true) : ago P N M ex n p = some q := by
  split at h
  · rename_i r hr
    rw [hr, aFq_ok r q h]
  · cases h
theorem aall_mem {α β : Type} {f : α → Option (List β)} : ∀ {l : List α} {bs : List β}, aall f l = some bs → ∀ b ∈ bs, ∃ a ∈ l, ∃ cs, f a = some cs ∧ b ∈ cs
  | [], bs, h, b, hb => by cases h; cases hb
  | a :: l, bs, h, b, hb => by
    unfold aall at h
    split at h
    · rename_i xs hx
      split at h
      · rename_i ys hy
        cases h
        rcases List.mem_append.mp hb with hb | hb
        · exact ⟨a, List.mem_cons_self, xs, hx, hb⟩
        · obtain ⟨c, h1, h2⟩ := aall_mem hy b hb
          exact ⟨c, List.mem_cons_of_mem _ h1, h2⟩
      · cases h
    · cases h
/-- a switch over some int leaves all but the place as it was -/
theorem afk_tab {P : xPk} {N : Option Nat} {M : xM} {E : aE} {pc : Nat} {L : aL} {k : Nat} {lo hi : Int} {r : List aV} {A : aS} {frs : List (aE × aF)} {d lo' hi' : Int} {offs : Array Int} {len : Nat} {x : xP} (hat : (xcd M)[pc]? = some (some (.tableswitch d lo' hi' offs, len, x))) (h : afk P N M (E, pc, L, .inr (1, k, lo, hi) :: r, A) = some frs) : ∀ q ∈ frs, ∃ t, q = (E, t, L, r, A) := by
  unfold afk at h
  dsimp only at h
  rw [hat] at h
  dsimp only at h
  split at h
  · have h : aall (fun q : Int × Int => if q.2 < q.1 then some [] else (atab d lo' hi' offs pc q).map fun t => [(E, t, L, r, A)]) (agap ((List.range offs.size).map fun i : Nat => lo' + (i : Int)) lo hi) = some frs := h
    intro q hq
    obtain ⟨a, -, cs, hcs, hb⟩ := aall_mem h q hq
    split at hcs
    · cases hcs; cases hb
    · obtain ⟨t, -, rfl⟩ := Option.map_eq_some_iff.mp hcs
      exact ⟨t, List.mem_singleton.mp hb⟩
  · cases h
end AEQ
