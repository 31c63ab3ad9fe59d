/-! Runs over named memory: the rows by which they are put together. -/
abbrev wQ : Type := wO → Nat × Nat → wm → Prop
def wW (K : wK) (M : xM) (pc : Nat) (L : wL) (st : List wv) (n : Nat × Nat) (m : wm) (Q : wQ) : Prop := ∀ S, wV K n m S → ∃ o S', xN K.1 K.2.1 M pc (wcl K L) (st.map (wcv K)) S (wco K o) S' ∧ ∃ n' m', wV K n' m' S' ∧ Q o n' m'
def wX (K : wK) (a : Nat) (vs : List wv) (n : Nat × Nat) (m : wm) (Q : wQ) : Prop := ∀ S, wV K n m S → ∃ o S', xX K.1 K.2.1 a (vs.map (wcv K)) S (wco K o) S' ∧ ∃ n' m', wV K n' m' S' ∧ Q o n' m'
/-- it answers, and doesn't throw -/
def wr (R : Option wv → Nat × Nat → wm → Prop) : wQ := fun o n m => match o with
  | .inl v => R v n m
  | .inr _ => False
def wcj : Option Prop → Option Prop → Option Prop
  | none, o => o
  | some p, none => some p
  | some p, some q => some (p ∧ q)
def wpr : Option Prop → Prop
  | none => True
  | some p => p
theorem wcj_ok {o o' : Option Prop} (h : wpr (wcj o o')) : wpr o ∧ wpr o' := by
  cases o with
  | none => exact ⟨trivial, h⟩
  | some p => cases o' with
    | none => exact ⟨h, trivial⟩
    | some q => exact h
theorem wpr_ok {o : Option Prop} (h : wpr o) : ∀ p, o = some p → p := fun p hp => by rw [hp] at h; exact h
/-- so many steps -/
def wgo (K : wK) (M : xM) : Nat → wF → wR
  | 0, q => some (none, q)
  | f + 1, q => match (xcd M)[q.1]? with
    | some (some xi) => if xi.2.1 = xlenOf xi.1 xi.2.1 then (match wst K M xi q.1 q.2.1 q.2.2.1 q.2.2.2 with
      | some (o, q1) => (match wgo K M f q1 with
        | some (o', q2) => some (wcj o o', q2)
        | none => none)
      | none => none) else none
    | _ => none
def wcmp : ClassFile.Cond → Int → Int → Prop
  | .eq, X, Y => X = Y
  | .ne, X, Y => X ≠ Y
  | .lt, X, Y => X < Y
  | .ge, X, Y => Y ≤ X
  | .gt, X, Y => Y < X
  | .le, X, Y => X ≤ Y
theorem wcmp_ok {c : ClassFile.Cond} {X Y : Int} (h : -2147483648 ≤ X ∧ X ≤ 2147483647 ∧ -2147483648 ≤ Y ∧ Y ≤ 2147483647) : xcmp c (wi X) (wi Y) = true ↔ wcmp c X Y := by
  obtain ⟨h1, h2, h3, h4⟩ := h
  have e1 := wi_toInt h1 h2
  have e2 := wi_toInt h3 h4
  have he : wi X = wi Y ↔ X = Y := ⟨fun h => by rw [← e1, ← e2, h], fun h => by rw [h]⟩
  cases c
  · simp [xcmp, wcmp, he]
  · simp [xcmp, wcmp, he]
  · simp [xcmp, wcmp, Int32.lt_iff_toInt_lt, e1, e2]
  · simp [xcmp, wcmp, Int32.le_iff_toInt_le, e1, e2]
  · simp [xcmp, wcmp, Int32.lt_iff_toInt_lt, e1, e2]
  · simp [xcmp, wcmp, Int32.le_iff_toInt_le, e1, e2]
def wca (K : wK) (N : xM) (i : Instr) (st : List wv) : Option (List wv × List wv × Prop) :=
  if xna N ≤ st.length ∧ ww (st.drop (xna N)) ≤ 8 then
    (match i with
    | .invokestatic _ => if xkd N = 0 then some ((st.take (xna N)).reverse, st.drop (xna N), True) else none
    | .invokevirtual _ => if xkd N = 1 then (match (st.take (xna N)).reverse with
      | .inr (.inr (.inl (some (k, i)))) :: _ => (match K.2.2.2 k with
        | some (c, .inl (cj, _)) => if cj = xcn N then some ((st.take (xna N)).reverse, st.drop (xna N), i < c) else none
        | _ => none)
      | _ => none) else none
    | _ => none)
  else none
def wag : Nat → List wv → wL
  | _, [] => []
  | k, v :: vs => (k, v) :: wag (if wcat v = 2 then k + 2 else k + 1) vs
def wfil (L : wL) (i : Nat) : wL := L.filter (fun q => !(q.1 == i) && !(q.1 + 1 == i && wcat q.2 == 2))
def whp (M : xM) (hp : Nat) (L : wL) : Option (Nat × wL) := match (xcd M)[hp]? with
  | some (some xi) => if xi.2.1 = xlenOf xi.1 xi.2.1 then (match xi.1 with
    | .astore i => if i < xmx M then some (hp + 2, wfil L i) else none
    | .astore_n i => if i.val < xmx M then some (hp + 1, wfil L i.val) else none
    | _ => none) else none
  | _ => none
theorem wcl_fil (K : wK) (L : wL) (i : Nat) : wcl K (wfil L i) = xfil (wcl K L) i := by
  unfold wfil xfil wcl
  rw [List.filter_map]
  congr 1
  apply List.filter_congr
  intro q _
  simp [wcv_cat]
theorem whp_ok {K : wK} {M : xM} {hp pc' : Nat} {L L' : wL} (h : whp M hp L = some (pc', L')) : xhp M hp (wcl K L) = some (pc', wcl K L') := by
  unfold whp at h
  unfold xhp
  split at h
  · rename_i xi hx
    try rw [hx]
    try dsimp only
    split at h
    · rename_i hl
      try rw [if_pos hl]
      split at h
      · rename_i i hi
        split at h
        · rename_i hlt
          cases h
          try rw [hi]
          try dsimp only
          rw [if_pos hlt, wcl_fil]
        · cases h
      · rename_i i hi
        split at h
        · rename_i hlt
          cases h
          try rw [hi]
          try dsimp only
          rw [if_pos hlt, wcl_fil]
        · cases h
      · cases h
    · cases h
  · cases h
theorem wag_ok (K : wK) : ∀ (vs : List wv) (k : Nat), wcl K (wag k vs) = lv_args k (vs.map (wcv K)) := by
  intro vs
  induction vs with
  | nil => intro k; rfl
  | cons v vs ih =>
    intro k
    show (k, wcv K v) :: wcl K (wag (if wcat v = 2 then k + 2 else k + 1) vs) = _
    rw [ih]
    show _ = (k, wcv K v) :: lv_args (if (wcv K v).category = 2 then k + 2 else k + 1) (vs.map (wcv K))
    rw [wcv_cat]
section WRN
variable {K : wK} {M : xM} {pc : Nat} {L : wL} {st r : List wv} {n : Nat × Nat} {m : wm} {Q Q' : wQ}
theorem wW_mono (h : wW K M pc L st n m Q) (hq : ∀ o n m, Q o n m → Q' o n m) : wW K M pc L st n m Q' := fun S hV => by
  obtain ⟨o, S', h1, n', m', h2, h3⟩ := h S hV
  exact ⟨o, S', h1, n', m', h2, hq _ _ _ h3⟩
theorem wX_mono {a : Nat} {vs : List wv} (h : wX K a vs n m Q) (hq : ∀ o n m, Q o n m → Q' o n m) : wX K a vs n m Q' := fun S hV => by
  obtain ⟨o, S', h1, n', m', h2, h3⟩ := h S hV
  exact ⟨o, S', h1, n', m', h2, hq _ _ _ h3⟩
theorem wst_side {xi : xI} {R : Option Prop × wF} (h : wst K M xi pc L st m = some R) (st' : List Value) (S : xS) : xend M xi.1 st' = none ∧ xcal K.1.2.2.2.2 xi st' S = none ∧ xthr M xi st' S = none := by
  obtain ⟨ins, len, qa, qb, qz, qj⟩ := xi
  cases ins with
  | invokestatic idx =>
    unfold wst at h
    dsimp only at h
    split at h
    · rename_i hn
      refine ⟨rfl, ?_, rfl⟩
      unfold xcal
      dsimp only
      rw [hn]
    · cases h
  | ireturn => cases h
  | lreturn => cases h
  | areturn => cases h
  | return_ => cases h
  | new idx => cases h
  | invokevirtual idx => cases h
  | invokespecial idx => cases h
  | _ => exact ⟨rfl, xcal_ni rfl, rfl⟩
theorem wgo_ok : ∀ (f : Nat) (q q' : wF) (o : Option Prop), wgo K M f q = some (o, q') → wpr o → wW K M q'.1 q'.2.1 q'.2.2.1 n q'.2.2.2 Q → wW K M q.1 q.2.1 q.2.2.1 n q.2.2.2 Q := by
  intro f
  induction f with
  | zero => intro q q' o h ho k; cases h; exact k
  | succ f ih =>
    intro q q' o h ho k
    unfold wgo at h
    split at h
    · rename_i xi hat
      split at h
      · rename_i hlen
        split at h
        · rename_i o1 q1 hs
          split at h
          · rename_i o2 q2 hg
            cases h
            obtain ⟨ho1, ho2⟩ := wcj_ok ho
            have k2 := ih q1 _ _ hg ho2 k
            intro S hV
            obtain ⟨S1, e1, hV1⟩ := wst_ok hs (wpr_ok ho1) hV
            obtain ⟨o9, S', h1, h2⟩ := k2 S1 hV1
            obtain ⟨a1, a2, a3⟩ := wst_side hs (q.2.2.1.map (wcv K)) S
            exact ⟨o9, S', xn_step hat hlen a1 a2 a3 e1 h1, h2⟩
          · cases h
        · cases h
      · cases h
    · cases h
theorem ww_go (f : Nat) {pc' : Nat} {L' : wL} {st' : List wv} {m' : wm} {o : Option Prop} (h : wgo K M f (pc, L, st, m) = some (o, pc', L', st', m')) (ho : wpr o) (k : wW K M pc' L' st' n m' Q) : wW K M pc L st n m Q := wgo_ok f (pc, L, st, m) (pc', L', st', m') o h ho k
theorem ww_if {c : ClassFile.Cond} {off : Int} {p : xP} {t : Nat} {X : Int} (hat : (xcd M)[pc]? = some (some (.ifCond c off, 3, p))) (ht : xtg pc off = some t) (hX : -2147483648 ≤ X ∧ X ≤ 2147483647) (k1 : wcmp c X 0 → wW K M t L r n m Q) (k2 : ¬ wcmp c X 0 → wW K M (pc + 3) L r n m Q) : wW K M pc L (.inl X :: r) n m Q := by
  intro S hV
  have e : xst K.2.1 K.1.1 K.1.2.1 K.1.2.2.1 (xmx M) (.ifCond c off, 3, p) pc (wcl K L) ((.inl X :: r : List wv).map (wcv K)) S = some (bif xcmp c (wi X) (wi 0) then t else pc + 3, wcl K L, r.map (wcv K), S) := by
    show ((xtg pc off).map fun t => (bif xcmp c (wi X) 0 then t else pc + 3, r.map (wcv K))).map _ = _
    rw [ht]
    rfl
  have hc := wcmp_ok (c := c) (X := X) (Y := 0) ⟨hX.1, hX.2, by decide, by decide⟩
  by_cases h : wcmp c X 0
  · obtain ⟨o, S', h1, h2⟩ := k1 h S hV
    rw [hc.mpr h] at e
    exact ⟨o, S', xn_step hat rfl rfl (xcal_ni rfl) rfl e h1, h2⟩
  · obtain ⟨o, S', h1, h2⟩ := k2 h S hV
    rw [show xcmp c (wi X) (wi 0) = false from by rw [← Bool.not_eq_true]; exact fun z => h (hc.mp z)] at e
    exact ⟨o, S', xn_step hat rfl rfl (xcal_ni rfl) rfl e h1, h2⟩
theorem ww_ic {c : ClassFile.Cond} {off : Int} {p : xP} {t : Nat} {X Y : Int} (hat : (xcd M)[pc]? = some (some (.if_icmp c off, 3, p))) (ht : xtg pc off = some t) (hX : -2147483648 ≤ X ∧ X ≤ 2147483647 ∧ -2147483648 ≤ Y ∧ Y ≤ 2147483647) (k1 : wcmp c X Y → wW K M t L r n m Q) (k2 : ¬ wcmp c X Y → wW K M (pc + 3) L r n m Q) : wW K M pc L (.inl Y :: .inl X :: r) n m Q := by
  intro S hV
  have e : xst K.2.1 K.1.1 K.1.2.1 K.1.2.2.1 (xmx M) (.if_icmp c off, 3, p) pc (wcl K L) ((.inl Y :: .inl X :: r : List wv).map (wcv K)) S = some (bif xcmp c (wi X) (wi Y) then t else pc + 3, wcl K L, r.map (wcv K), S) := by
    show ((xtg pc off).map fun t => (bif xcmp c (wi X) (wi Y) then t else pc + 3, r.map (wcv K))).map _ = _
    rw [ht]
    rfl
  have hc := wcmp_ok (c := c) hX
  by_cases h : wcmp c X Y
  · obtain ⟨o, S', h1, h2⟩ := k1 h S hV
    rw [hc.mpr h] at e
    exact ⟨o, S', xn_step hat rfl rfl (xcal_ni rfl) rfl e h1, h2⟩
  · obtain ⟨o, S', h1, h2⟩ := k2 h S hV
    rw [show xcmp c (wi X) (wi Y) = false from by rw [← Bool.not_eq_true]; exact fun z => h (hc.mp z)] at e
    exact ⟨o, S', xn_step hat rfl rfl (xcal_ni rfl) rfl e h1, h2⟩
theorem ww_nu {off : Int} {p : xP} {t : Nat} {x : Option (Nat × Nat)} (hat : (xcd M)[pc]? = some (some (.ifnull off, 3, p))) (ht : xtg pc off = some t) (k1 : x = none → wW K M t L r n m Q) (k2 : ∀ z, x = some z → wW K M (pc + 3) L r n m Q) : wW K M pc L (.inr (.inr (.inl x)) :: r) n m Q := by
  intro S hV
  cases x with
  | none =>
    have e : xst K.2.1 K.1.1 K.1.2.1 K.1.2.2.1 (xmx M) (.ifnull off, 3, p) pc (wcl K L) ((.inr (.inr (.inl none)) :: r : List wv).map (wcv K)) S = some (t, wcl K L, r.map (wcv K), S) := by
      show ((xtg pc off).map fun t => (t, r.map (wcv K))).map _ = _
      rw [ht]
      rfl
    obtain ⟨o, S', h1, h2⟩ := k1 rfl S hV
    exact ⟨o, S', xn_step hat rfl rfl (xcal_ni rfl) rfl e h1, h2⟩
  | some z =>
    have e : xst K.2.1 K.1.1 K.1.2.1 K.1.2.2.1 (xmx M) (.ifnull off, 3, p) pc (wcl K L) ((.inr (.inr (.inl (some z))) :: r : List wv).map (wcv K)) S = some (pc + 3, wcl K L, r.map (wcv K), S) := by
      show ((xtg pc off).map fun t => (pc + 3, r.map (wcv K))).map _ = _
      rw [ht]
      rfl
    obtain ⟨o, S', h1, h2⟩ := k2 z rfl S hV
    exact ⟨o, S', xn_step hat rfl rfl (xcal_ni rfl) rfl e h1, h2⟩
theorem ww_nn {off : Int} {p : xP} {t : Nat} {x : Option (Nat × Nat)} (hat : (xcd M)[pc]? = some (some (.ifnonnull off, 3, p))) (ht : xtg pc off = some t) (k1 : ∀ z, x = some z → wW K M t L r n m Q) (k2 : x = none → wW K M (pc + 3) L r n m Q) : wW K M pc L (.inr (.inr (.inl x)) :: r) n m Q := by
  intro S hV
  cases x with
  | none =>
    have e : xst K.2.1 K.1.1 K.1.2.1 K.1.2.2.1 (xmx M) (.ifnonnull off, 3, p) pc (wcl K L) ((.inr (.inr (.inl none)) :: r : List wv).map (wcv K)) S = some (pc + 3, wcl K L, r.map (wcv K), S) := by
      show ((xtg pc off).map fun t => (pc + 3, r.map (wcv K))).map _ = _
      rw [ht]
      rfl
    obtain ⟨o, S', h1, h2⟩ := k2 rfl S hV
    exact ⟨o, S', xn_step hat rfl rfl (xcal_ni rfl) rfl e h1, h2⟩
  | some z =>
    have e : xst K.2.1 K.1.1 K.1.2.1 K.1.2.2.1 (xmx M) (.ifnonnull off, 3, p) pc (wcl K L) ((.inr (.inr (.inl (some z))) :: r : List wv).map (wcv K)) S = some (t, wcl K L, r.map (wcv K), S) := by
      show ((xtg pc off).map fun t => (t, r.map (wcv K))).map _ = _
      rw [ht]
      rfl
    obtain ⟨o, S', h1, h2⟩ := k1 z rfl S hV
    exact ⟨o, S', xn_step hat rfl rfl (xcal_ni rfl) rfl e h1, h2⟩
theorem ww_tab {d lo hi : Int} {offs : Array Int} {len : Nat} {p : xP} {X : Int} (hat : (xcd M)[pc]? = some (some (.tableswitch d lo hi offs, len, p))) (hX : -2147483648 ≤ X ∧ X ≤ 2147483647) {td : Nat} (hd : xtg pc d = some td) (k1 : X < lo ∨ hi < X → wW K M td L r n m Q)
    (k2 : lo ≤ X → X ≤ hi → ∃ off t, offs[(X - lo).toNat]? = some off ∧ xtg pc off = some t ∧ wW K M t L r n m Q) : wW K M pc L (.inl X :: r) n m Q := by
  intro S hV
  have eX := wi_toInt hX.1 hX.2
  by_cases h : X < lo ∨ hi < X
  · have e : xst K.2.1 K.1.1 K.1.2.1 K.1.2.2.1 (xmx M) (.tableswitch d lo hi offs, len, p) pc (wcl K L) ((.inl X :: r : List wv).map (wcv K)) S = some (td, wcl K L, r.map (wcv K), S) := by
      show (if (wi X).toInt < lo ∨ hi < (wi X).toInt then (xtg pc d).map fun t => (t, r.map (wcv K)) else _).map _ = _
      rw [eX, if_pos h, hd]
      rfl
    obtain ⟨o, S', h1, h2⟩ := k1 h S hV
    exact ⟨o, S', xn_step hat rfl rfl (xcal_ni rfl) rfl e h1, h2⟩
  · obtain ⟨off, t, ho, ht, k⟩ := k2 (by omega) (by omega)
    have e : xst K.2.1 K.1.1 K.1.2.1 K.1.2.2.1 (xmx M) (.tableswitch d lo hi offs, len, p) pc (wcl K L) ((.inl X :: r : List wv).map (wcv K)) S = some (t, wcl K L, r.map (wcv K), S) := by
      show (xtab d lo hi offs pc (.int (wi X) :: r.map (wcv K))).map _ = _
      unfold xtab
      dsimp only
      rw [eX, if_neg h, ho]
      dsimp only
      rw [ht]
      rfl
    obtain ⟨o, S', h1, h2⟩ := k S hV
    exact ⟨o, S', xn_step hat rfl rfl (xcal_ni rfl) rfl e h1, h2⟩
theorem ww_ret {ins : Instr} {len : Nat} {p : xP} {v : Option wv} (hat : (xcd M)[pc]? = some (some (ins, len, p))) (hlen : len = xlenOf ins len) (he : xend M ins (st.map (wcv K)) = some (v.map (wcv K))) (hq : Q (.inl v) n m) : wW K M pc L st n m Q := fun S hV =>
  ⟨.inl v, S, xn_ret hat hlen he, n, m, hV, hq⟩
theorem ww_rI {p : xP} {X : Int} (hat : (xcd M)[pc]? = some (some (.ireturn, 1, p))) (hr : xrt M = some .int) (hq : Q (.inl (some (.inl X))) n m) : wW K M pc L [.inl X] n m Q :=
  ww_ret hat rfl (by unfold xend; rw [hr]; rfl) hq
theorem ww_rB {p : xP} {X : Int} (hat : (xcd M)[pc]? = some (some (.ireturn, 1, p))) (hr : xrt M = some .boolean) (hX : 0 ≤ X ∧ X ≤ 1) (hq : Q (.inl (some (.inl X))) n m) : wW K M pc L [.inl X] n m Q := by
  refine ww_ret hat rfl ?_ hq
  unfold xend
  rw [hr]
  rcases (show X = 0 ∨ X = 1 by omega) with rfl | rfl <;> rfl
theorem ww_rL {p : xP} {x : Int64} (hat : (xcd M)[pc]? = some (some (.lreturn, 1, p))) (hr : xrt M = some .long) (hq : Q (.inl (some (.inr (.inl x)))) n m) : wW K M pc L [.inr (.inl x)] n m Q :=
  ww_ret hat rfl (by unfold xend; rw [hr]; rfl) hq
theorem ww_rA {p : xP} {C : String} {x : Option (Nat × Nat)} (hat : (xcd M)[pc]? = some (some (.areturn, 1, p))) (hr : xrt M = some (.object C)) (hq : Q (.inl (some (.inr (.inr (.inl x))))) n m) : wW K M pc L [.inr (.inr (.inl x))] n m Q := by
  refine ww_ret hat rfl ?_ hq
  unfold xend
  rw [hr]
  cases x <;> rfl
theorem ww_rV {p : xP} (hat : (xcd M)[pc]? = some (some (.return_, 1, p))) (hr : xrt M = none) (hq : Q (.inl none) n m) : wW K M pc L [] n m Q :=
  ww_ret hat rfl (by unfold xend; rw [hr]; rfl) hq
theorem wca_ok {N : xM} {xi : xI} {vs : List wv} {p : Prop} (hN : K.1.2.2.2.2[xi.2.2.1]? = some N) (h : wca K N xi.1 st = some (vs, r, p)) (hp : p) {S : xS} (hV : wV K n m S) : xcal K.1.2.2.2.2 xi (st.map (wcv K)) S = some (vs.map (wcv K), r.map (wcv K)) ∧ ∀ st', xend M xi.1 st' = none := by
  unfold wca at h
  split at h
  · rename_i h0
    unfold xcal
    rw [hN]
    dsimp only
    unfold xargs
    split at h
    · rename_i idx hi
      rw [hi]
      split at h
      · rename_i hk
        cases h
        rw [if_pos ⟨by rw [List.length_map]; exact h0.1, by rw [← List.map_drop, ww_xw]; exact h0.2, by omega⟩]
        dsimp only
        rw [if_pos hk]
        exact ⟨by simp, fun _ => rfl⟩
      · cases h
    · rename_i idx hi
      rw [hi]
      split at h
      · rename_i hk
        split at h
        · rename_i k i rest hv
          split at h
          · rename_i c cj fs hT
            split at h
            · rename_i hc
              cases h
              rw [if_pos ⟨by rw [List.length_map]; exact h0.1, by rw [← List.map_drop, ww_xw]; exact h0.2, by omega⟩]
              dsimp only
              have e : ((st.map (wcv K)).take (xna N)).reverse = ((st.take (xna N)).reverse).map (wcv K) := by simp
              rw [if_pos ⟨hk, by
                rw [e, hv]
                show xrcv S (xcn N) (.ref (K.2.2.1 k i) :: rest.map (wcv K)) = true
                unfold xrcv
                dsimp only
                rw [wV_at hV hT hp]
                dsimp only [wcell]
                exact decide_eq_true hc⟩, e]
              exact ⟨by simp, fun _ => rfl⟩
            · cases h
          · cases h
        · cases h
      · cases h
    · cases h
  · cases h
/-- a call that answers -/
theorem ww_call {xi : xI} {N : xM} {vs : List wv} {p : Prop} {R : Option wv → Nat × Nat → wm → Prop} (hat : (xcd M)[pc]? = some (some xi)) (hlen : xi.2.1 = xlenOf xi.1 xi.2.1) (hN : K.1.2.2.2.2[xi.2.2.1]? = some N) (hca : wca K N xi.1 st = some (vs, r, p)) (hp : p) (hx : wX K xi.2.2.1 vs n m (wr R))
    (kr : ∀ v n' m', R v n' m' → wW K M (pc + 3) L (v.toList ++ r) n' m' Q) : wW K M pc L st n m Q := by
  intro S hV
  obtain ⟨o, S1, h1, n1, m1, hV1, hq⟩ := hx S hV
  obtain ⟨e1, e2⟩ := wca_ok (M := M) hN hca hp hV
  cases o with
  | inr k => exact hq.elim
  | inl v =>
    obtain ⟨o, S', h2, h3⟩ := kr v n1 m1 hq S1 hV1
    refine ⟨o, S', xn_call hat hlen (e2 _) e1 h1 ?_, h3⟩
    have e : (v.map (wcv K)).toList ++ r.map (wcv K) = (v.toList ++ r).map (wcv K) := by cases v <;> simp
    rw [e]
    exact h2
/-- a call that may throw, in a body without handlers -/
theorem ww_callT {xi : xI} {N : xM} {vs : List wv} {p : Prop} {Q1 : wQ} (hat : (xcd M)[pc]? = some (some xi)) (hlen : xi.2.1 = xlenOf xi.1 xi.2.1) (hN : K.1.2.2.2.2[xi.2.2.1]? = some N) (hca : wca K N xi.1 st = some (vs, r, p)) (hp : p) (hsp : ¬ (xisp xi.1 = true ∨ xcH K.1.2.2.2.2 xi = false)) (hhs : xhs M = []) (hx : wX K xi.2.2.1 vs n m Q1)
    (kr : ∀ v n' m', Q1 (.inl v) n' m' → wW K M (pc + 3) L (v.toList ++ r) n' m' Q) (kt : ∀ k n' m', Q1 (.inr k) n' m' → Q (.inr k) n' m') : wW K M pc L st n m Q := by
  intro S hV
  obtain ⟨o, S1, h1, n1, m1, hV1, hq⟩ := hx S hV
  obtain ⟨e1, e2⟩ := wca_ok (M := M) hN hca hp hV
  cases o with
  | inr k => exact ⟨.inr k, S1, xn_thru hat hlen (e2 _) e1 hsp hhs h1, n1, m1, hV1, kt k n1 m1 hq⟩
  | inl v =>
    obtain ⟨o, S', h2, h3⟩ := kr v n1 m1 hq S1 hV1
    refine ⟨o, S', xn_call hat hlen (e2 _) e1 h1 ?_, h3⟩
    have e : (v.map (wcv K)).toList ++ r.map (wcv K) = (v.toList ++ r).map (wcv K) := by cases v <;> simp
    rw [e]
    exact h2
/-- a call that may throw, in a body with handlers -/
theorem ww_callC {xi : xI} {N : xM} {vs : List wv} {p : Prop} {Q1 : wQ} {q1 : Nat × Nat × Nat × Nat} {q2 : List (Nat × Nat × Nat × Nat)} (hat : (xcd M)[pc]? = some (some xi)) (hlen : xi.2.1 = xlenOf xi.1 xi.2.1) (hN : K.1.2.2.2.2[xi.2.2.1]? = some N) (hca : wca K N xi.1 st = some (vs, r, p)) (hp : p) (hsp : ¬ (xisp xi.1 = true ∨ xcH K.1.2.2.2.2 xi = false)) (hhs : xhs M = q1 :: q2) (hx : wX K xi.2.2.1 vs n m Q1)
    (kr : ∀ v n' m', Q1 (.inl v) n' m' → wW K M (pc + 3) L (v.toList ++ r) n' m' Q) (kt : ∀ k n' m', Q1 (.inr k) n' m' → ∃ hp pc' L', xhand K.1.2.2.2.1 (xhs M) pc k = some hp ∧ whp M hp L = some (pc', L') ∧ wW K M pc' L' [] n' m' Q) : wW K M pc L st n m Q := by
  intro S hV
  obtain ⟨o, S1, h1, n1, m1, hV1, hq⟩ := hx S hV
  obtain ⟨e1, e2⟩ := wca_ok (M := M) hN hca hp hV
  cases o with
  | inr k =>
    obtain ⟨hp9, pc', L', a1, a2, a3⟩ := kt k n1 m1 hq
    obtain ⟨o, S', h2, h3⟩ := a3 S1 hV1
    exact ⟨o, S', xn_catch hat hlen (e2 _) e1 hsp hhs a1 (whp_ok a2) h1 h2, h3⟩
  | inl v =>
    obtain ⟨o, S', h2, h3⟩ := kr v n1 m1 hq S1 hV1
    refine ⟨o, S', xn_call hat hlen (e2 _) e1 h1 ?_, h3⟩
    have e : (v.map (wcv K)).toList ++ r.map (wcv K) = (v.toList ++ r).map (wcv K) := by cases v <;> simp
    rw [e]
    exact h2
/-- 'throw new' -/
theorem ww_thr {idx : Nat} {len : Nat} {p : xP} (hat : (xcd M)[pc]? = some (some (.new idx, len, p))) (hlen : len = xlenOf (.new idx) len) (hk : 1000 ≤ p.1) (hhs : xhs M = []) (hst : ww st ≤ 8) (hnp : K.1.2.2.2.2[p.1]? = none) (hn : n.1 < 2304) (hq : Q (.inr (p.1 - 1000)) (n.1 + 1, n.2 + 6) m) : wW K M pc L st n m Q := by
  intro S hV
  obtain ⟨c, hc⟩ := hV.2.2.2.2 n.1 hn
  have e1 := hV.2.1
  have e2 := hV.2.2.1
  have hthr : xthr M (.new idx, len, p) (st.map (wcv K)) S = some (p.1 - 1000, (S.1 + 1, S.2.1 + 6, xset S.2.2 S.1 (.inr none))) := by
    unfold xthr
    dsimp only
    rw [if_pos ⟨hk, by rw [ww_xw]; exact hst, hhs⟩]
    unfold xnew
    rw [e1, hc]
    rfl
  refine ⟨.inr (p.1 - 1000), _, xn_throw hat hlen rfl (by unfold xcal; dsimp only; rw [hnp]) hthr, (n.1 + 1, n.2 + 6), m, ⟨hV.1, by show S.1 + 1 = _; rw [e1], by show S.2.1 + 6 = _; rw [e2], fun k s hs i hi => ?_, fun q hq => ?_⟩, hq⟩
  · obtain ⟨a1, a2⟩ := hV.2.2.2.1 k s hs i hi
    refine ⟨Nat.lt_succ_of_lt a1, ?_⟩
    show xget (xset S.2.2 S.1 _) _ = _
    rw [xget_set_ne (by omega)]
    exact a2
  · show ∃ c', xget (xset S.2.2 S.1 (.inr none)) q = some c'
    by_cases h : q = S.1
    · rw [h]
      exact ⟨_, xget_set_self (by rw [e1]; exact hc)⟩
    · rw [xget_set_ne h]
      exact hV.2.2.2.2 q hq
theorem wX_of {a : Nat} {N : xM} {vs : List wv} (hN : K.1.2.2.2.2[a]? = some N) (hw : ww vs ≤ xmx N) (h : wW K N 0 (wag 0 vs) [] n m Q) : wX K a vs n m Q := by
  intro S hV
  obtain ⟨o, S', h1, h2⟩ := h S hV
  refine ⟨o, S', xX_of hN (by rw [ww_xw]; exact hw) ?_, h2⟩
  rw [← wag_ok]
  exact h1
end WRN
/-- fewer locals -/
def wsb : wL → wL → Prop
  | [], _ => True
  | q :: l, L' => wfind L' q.1 = some q.2 ∧ wsb l L'
def wnd : wL → Bool
  | [] => true
  | q :: l => l.all (fun z => !(z.1 == q.1)) && wnd l
theorem wnd_ok (K : wK) : ∀ {L : wL}, wnd L = true → xnd (wcl K L) := by
  intro L
  induction L with
  | nil => intro _; exact trivial
  | cons q l ih =>
    intro h
    unfold wnd at h
    rw [Bool.and_eq_true] at h
    refine ⟨fun z hz => ?_, ih h.2⟩
    obtain ⟨y, hy, rfl⟩ := List.mem_map.mp hz
    have := List.all_eq_true.mp h.1 y hy
    simpa using this
theorem wsb_ok (K : wK) {L' : wL} : ∀ {L : wL}, wsb L L' → xle (wcl K L) (wcl K L') := by
  intro L
  induction L with
  | nil => intro _ i v hv; cases hv
  | cons q l ih =>
    intro h i v hv
    obtain ⟨j, x⟩ := q
    have hv : (if j = i then some (wcv K x) else xfind (wcl K l) i) = some v := hv
    by_cases hj : j = i
    · rw [if_pos hj] at hv
      have hv := Option.some.inj hv
      rw [← hv, ← hj, wfind_cl, h.1]
      rfl
    · rw [if_neg hj] at hv
      exact ih h.2 i v hv
theorem ww_sub {K : wK} {M : xM} {pc : Nat} {L L' : wL} {st : List wv} {n : Nat × Nat} {m : wm} {Q : wQ} (h : wsb L L') (h1 : wnd L = true) (h2 : wnd L' = true) (k : wW K M pc L st n m Q) : wW K M pc L' st n m Q := fun S hV => by
  obtain ⟨o, S', a, b⟩ := k S hV
  exact ⟨o, S', xN_sub (wsb_ok K h) (wnd_ok K h1) (wnd_ok K h2) a, b⟩
