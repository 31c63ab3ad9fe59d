/-! Both receivers side by side: numbers and rows. -/
def zkey (kn : Nat → Int) (q bk : Int) : Int := 16 * (2 * kn (q / 7).toNat + q / 28) + 2 * (q % 7) + bk
def zqk (kn : Nat → Int) (q bk : Int) : Prop := 0 ≤ q ∧ q < 56 ∧ 0 ≤ bk ∧ bk ≤ 1 ∧ kn (q / 7).toNat ≠ 0
/-- rising, nothing first -/
def zSo (kn : Nat → Int) : Prop := ∀ p, p < 8 → 0 ≤ kn p ∧ (p % 4 < 3 → kn p = 0 ∨ kn p < kn (p + 1))
theorem zSo_lt {kn : Nat → Int} (h : zSo kn) {p p' : Nat} (hp : p' < 8) (hl : p < p') (hf : p / 4 = p' / 4) : kn p = 0 ∨ kn p < kn p' := by
  have a := h p (by omega)
  have a3 := a.2 (by omega)
  by_cases e1 : p' = p + 1
  · rw [e1]; exact a3
  have b := h (p + 1) (by omega)
  have b3 := b.2 (by omega)
  by_cases e2 : p' = p + 2
  · rw [e2]; rw [show p + 1 + 1 = p + 2 from rfl] at b3; omega
  have c := h (p + 2) (by omega)
  have c3 := c.2 (by omega)
  have e3 : p' = p + 3 := by omega
  rw [e3]; rw [show p + 1 + 1 = p + 2 from rfl] at b3; rw [show p + 2 + 1 = p + 3 from rfl] at c3; omega
theorem zSo_u {kn : Nat → Int} (h : zSo kn) {p p' : Nat} (hp : p < 8) (hp' : p' < 8) (hf : p / 4 = p' / 4) (he : kn p = kn p') (h0 : kn p ≠ 0) : p = p' := by
  by_cases l1 : p < p'
  · have := zSo_lt h hp' l1 hf; omega
  · by_cases l2 : p' < p
    · have := zSo_lt h hp l2 hf.symm; omega
    · omega
theorem zkey_i {kn : Nat → Int} (h : zSo kn) {q b q' b' : Int} (hq : zqk kn q b) (hq' : zqk kn q' b') (he : zkey kn q b = zkey kn q' b') : q = q' ∧ b = b' := by
  obtain ⟨q1, q2, q3, q4, q5⟩ := hq
  obtain ⟨r1, r2, r3, r4, r5⟩ := hq'
  unfold zkey at he
  have e1 : b = b' := by omega
  have e2 : q % 7 = q' % 7 := by omega
  have e3 : kn (q / 7).toNat = kn (q' / 7).toNat := by omega
  have e4 : q / 28 = q' / 28 := by omega
  have e5 := zSo_u h (p := (q / 7).toNat) (p' := (q' / 7).toNat) (by omega) (by omega) (by omega) e3 q5
  exact ⟨by omega, e1⟩
/-- rows of both sides -/
def zRw2 (la : List (Int × Int × Int64)) (lb : List (Int × Int × Int × Int64)) (kn : Nat → Int) : Prop := la.map (fun r => r.1) = lb.map (fun r => zkey kn r.1 r.2.1) ∧ (∀ r, r ∈ lb → zqk kn r.1 r.2.1) ∧ ∀ q bk, zqk kn q bk → ∀ x, zspL (zcb (zkey kn q bk) la) x ↔ zspL (zrb q bk lb) x
theorem zRw2_0 {kn : Nat → Int} : zRw2 [] [] kn := ⟨rfl, fun r hr => absurd hr List.not_mem_nil, fun q bk _ x => Iff.rfl⟩
theorem zRw2_len {la : List (Int × Int × Int64)} {lb : List (Int × Int × Int × Int64)} {kn : Nat → Int} (h : zRw2 la lb kn) : la.length = lb.length := by
  have := congrArg List.length h.1
  rw [List.length_map, List.length_map] at this
  exact this
theorem zcb_f {K : Int} {la : List (Int × Int × Int64)} {ka : Int → Bool} : zcb K (la.filter (fun r => ka r.1)) = if ka K = true then zcb K la else [] := by
  unfold zcb
  rw [List.filter_filter]
  by_cases e : ka K = true
  · rw [if_pos e]
    congr 1
    refine List.filter_congr fun r _ => ?_
    by_cases e2 : r.1 = K
    · rw [e2, e, Bool.and_true]
    · rw [decide_eq_false e2, Bool.false_and]
  · rw [if_neg e]
    have : la.filter (fun a => decide (a.1 = K) && ka a.1) = [] := List.filter_eq_nil_iff.2 fun r _ hr => by
      rw [Bool.and_eq_true] at hr
      have e2 : r.1 = K := of_decide_eq_true hr.1
      rw [e2] at hr
      exact e hr.2
    rw [this]; rfl
theorem zrb_f {q b : Int} {lb : List (Int × Int × Int × Int64)} {kb : Int → Int → Bool} : zrb q b (lb.filter (fun r => kb r.1 r.2.1)) = if kb q b = true then zrb q b lb else [] := by
  unfold zrb
  rw [List.filter_filter]
  by_cases e : kb q b = true
  · rw [if_pos e]
    congr 1
    refine List.filter_congr fun r _ => ?_
    by_cases e2 : r.1 = q ∧ r.2.1 = b
    · rw [e2.1, e2.2, e, Bool.and_true]
    · rw [decide_eq_false e2, Bool.false_and]
  · rw [if_neg e]
    have : lb.filter (fun a => decide (a.1 = q ∧ a.2.1 = b) && kb a.1 a.2.1) = [] := List.filter_eq_nil_iff.2 fun r _ hr => by
      rw [Bool.and_eq_true] at hr
      have e2 : r.1 = q ∧ r.2.1 = b := of_decide_eq_true hr.1
      rw [e2.1, e2.2] at hr
      exact e hr.2
    rw [this]; rfl
theorem zfil_m {α β : Type} {f : α → β} {k : β → Bool} : ∀ {l : List α}, (l.filter (fun r => k (f r))).map f = (l.map f).filter k := by
  intro l
  induction l with
  | nil => rfl
  | cons a l ih =>
    rw [List.map_cons, List.filter_cons, List.filter_cons]
    by_cases e : k (f a) = true
    · rw [if_pos e, if_pos e, List.map_cons, ih]
    · rw [if_neg e, if_neg e, ih]
/-- some rows gone on both sides -/
theorem zRw2_f {la : List (Int × Int × Int64)} {lb : List (Int × Int × Int × Int64)} {kn : Nat → Int} {ka : Int → Bool} {kb : Int → Int → Bool} (h : zRw2 la lb kn) (hk : ∀ q bk, zqk kn q bk → ka (zkey kn q bk) = kb q bk) : zRw2 (la.filter (fun r => ka r.1)) (lb.filter (fun r => kb r.1 r.2.1)) kn := by
  obtain ⟨h1, h2, h3⟩ := h
  refine ⟨?_, fun r hr => h2 r (List.mem_filter.1 hr).1, fun q bk hq x => ?_⟩
  · rw [zfil_m (f := fun r : Int × Int × Int64 => r.1) (k := ka), h1, ← zfil_m (f := fun r : Int × Int × Int × Int64 => zkey kn r.1 r.2.1) (k := ka)]
    congr 1
    exact List.filter_congr fun r hr => hk _ _ (h2 r hr)
  · rw [zcb_f, zrb_f, hk q bk hq]
    by_cases e : kb q bk = true
    · rw [if_pos e, if_pos e]; exact h3 q bk hq x
    · rw [if_neg e, if_neg e]
theorem zRw2_c {la : List (Int × Int × Int64)} {lb : List (Int × Int × Int × Int64)} {kn : Nat → Int} {x y : Int} {k : Int × Int × Int × Int64 → Bool} {kb : Int → Int → Bool} (h : zRw2 la lb kn) (he : k = fun r => kb r.1 r.2.1) (hk : ∀ q bk, zqk kn q bk → (zkey kn q bk < x ∨ y < zkey kn q bk ↔ kb q bk = true)) : zRw2 (la.filter (zkc9 x y)) (lb.filter k) kn := by
  rw [he]
  refine zRw2_f (ka := fun z => decide (z < x ∨ y < z)) h fun q bk hq => ?_
  have := hk q bk hq
  by_cases e : kb q bk = true
  · rw [e]; exact decide_eq_true (this.2 e)
  · rw [Bool.not_eq_true] at e
    rw [e]; exact decide_eq_false (fun z => by rw [this.1 z] at e; exact Bool.noConfusion e)
/-- other numbers of the same places -/
theorem zRw2_kn {la : List (Int × Int × Int64)} {lb : List (Int × Int × Int × Int64)} {kn kn' : Nat → Int} (h : zRw2 la lb kn) (e : ∀ p, p < 8 → kn' p = kn p) : zRw2 la lb kn' := by
  obtain ⟨h1, h2, h3⟩ := h
  have eq : ∀ q bk, zqk kn' q bk ↔ zqk kn q bk := fun q bk => by
    unfold zqk
    by_cases hq : 0 ≤ q ∧ q < 56
    · rw [e _ (by omega)]
    · constructor
      · rintro ⟨a, b, -⟩; exact absurd ⟨a, b⟩ hq
      · rintro ⟨a, b, -⟩; exact absurd ⟨a, b⟩ hq
  have ek : ∀ q bk, zqk kn q bk → zkey kn' q bk = zkey kn q bk := fun q bk hq => by
    unfold zkey
    obtain ⟨a, b, -⟩ := hq
    rw [e _ (by omega)]
  refine ⟨?_, fun r hr => (eq _ _).2 (h2 r hr), fun q bk hq x => ?_⟩
  · rw [h1]; exact List.map_congr_left fun r hr => (ek _ _ (h2 r hr)).symm
  · rw [ek _ _ ((eq _ _).1 hq)]; exact h3 q bk ((eq _ _).1 hq) x
/-- a row more on both sides -/
theorem zAd_k {a a1 : wm} {K y : Int} {v : Int64} (h : zAd a a1 K y v) (hu : 0 ≤ a.1 22 0 3) : (zLC a1).map (fun r => r.1) = (zLC a).map (fun r => r.1) ++ [K] := by
  obtain ⟨h1, h2, h3, -⟩ := h
  have u1 : zCu0 a1 = zCu0 a + 1 := by unfold zCu0; rw [h1]; omega
  unfold zLC
  rw [List.map_map, List.map_map, u1, List.range_succ, List.map_append, List.map_cons, List.map_nil]
  congr 1
  · exact List.map_congr_left fun j hj => h2 j (List.mem_range.1 hj)
  · show [a1.1 23 0 (zCu0 a)] = [K]
    rw [h3]
theorem zAd_o {a a1 : wm} {K K' y : Int} {v : Int64} {x : zRo} (h : zAd a a1 K y v) (hu : 0 ≤ a.1 22 0 3) (hK : K' ≠ K) : zspL (zcb K' (zLC a1)) x ↔ zspL (zcb K' (zLC a)) x := by
  obtain ⟨h1, h2, h3, h4, -⟩ := h
  have u1 : zCu0 a1 = zCu0 a + 1 := by unfold zCu0; rw [h1]; omega
  rw [← zKp_L, ← zKp_L, u1, zsq_n (show zKp a1 K' (zCu0 a) = false from decide_eq_false (by rw [h3]; exact fun z => hK z.symm))]
  refine zsq_c fun j hj => ⟨?_, fun hP => ?_⟩
  · unfold zKp; rw [h2 j hj]
  · have e : a1.1 23 0 j = K' := of_decide_eq_true hP
    rw [h2 j hj] at e
    have := h4 j hj (by rw [e]; exact hK)
    unfold zCw
    rw [this.1, this.2]
theorem zRw2_a {a a1 : wm} {lb : List (Int × Int × Int × Int64)} {kn : Nat → Int} {Q b M : Int} {v : Int64} (hS : zSo kn) (h : zRw2 (zLC a) lb kn) (hq : zqk kn Q b) (hu : 0 ≤ a.1 22 0 3) (hA : zAd a a1 (zkey kn Q b) M v) : zRw2 (zLC a1) (lb ++ [(Q, b, M, v)]) kn := by
  obtain ⟨h1, h2, h3⟩ := h
  refine ⟨?_, fun r hr => ?_, fun q bk hqk x => ?_⟩
  · rw [zAd_k hA hu, h1, List.map_append]; rfl
  · rcases List.mem_append.1 hr with z | z
    · exact h2 r z
    · rw [List.mem_singleton.1 z]; exact hq
  · by_cases e : q = Q ∧ bk = b
    · rw [e.1, e.2]
      have e1 : zrb Q b (lb ++ [(Q, b, M, v)]) = zrb Q b lb ++ [(M.toNat, v)] := by
        unfold zrb
        rw [List.filter_append, List.map_append]
        congr 1
        rw [List.filter_cons, if_pos (decide_eq_true ⟨rfl, rfl⟩)]; rfl
      rw [e1, zspL_ap, ← h3 Q b hq x, ← h3 Q b hq (zxo x (M.toNat, v)), ← zKp_L, ← zKp_L, ← zKp_L]
      exact hA.2.2.2.2.1 x
    · have e1 : zrb q bk (lb ++ [(Q, b, M, v)]) = zrb q bk lb := by
        unfold zrb
        rw [List.filter_append, List.filter_cons, if_neg (fun z => e (by have z9 : Q = q ∧ b = bk := of_decide_eq_true z; exact ⟨z9.1.symm, z9.2.symm⟩)), List.filter_nil, List.append_nil]
      rw [e1, zAd_o hA hu (fun z => e (zkey_i hS hqk hq z))]
      exact h3 q bk hqk x
