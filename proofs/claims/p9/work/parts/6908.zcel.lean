/-! The class's rows stay solved for each other where some are dropped. -/
def zcr1 (r : Int × Int × Int64) : Prop := 0 ≤ r.2.1 ∧ r.2.1 ≤ 255 ∧ r.2.1.toNat ≠ 0
def zcr2 (r r' : Int × Int × Int64) : Prop := r.1 = r'.1 → (∀ p, zlw r.2.1.toNat p → r'.2.1.toNat.testBit p = false) ∧ ∀ p, zlw r'.2.1.toNat p → r.2.1.toNat.testBit p = false
def zcel (l : List (Int × Int × Int64)) : Prop := (∀ r, r ∈ l → zcr1 r) ∧ l.Pairwise zcr2
theorem zcel_f {l : List (Int × Int × Int64)} {k : Int × Int × Int64 → Bool} (h : zcel l) : zcel (l.filter k) := ⟨fun r hr => h.1 r (List.mem_filter.1 hr).1, h.2.sublist List.filter_sublist⟩
theorem zCe_L {m : wm} : zCe m ↔ zcel (zLC m) := by
  constructor
  · intro h
    refine ⟨fun r hr => ?_, ?_⟩
    · unfold zLC at hr
      obtain ⟨j, hj, rfl⟩ := List.mem_map.1 hr
      have hj' := List.mem_range.1 hj
      have b := h.1 j hj'
      exact ⟨b.1, b.2, (h.2 (m.1 23 0 j) j hj' (decide_eq_true rfl)).1⟩
    · unfold zLC
      rw [List.pairwise_map]
      refine List.Pairwise.imp_of_mem (fun {a b} ha hb hab he => ?_) List.pairwise_lt_range
      have ha' := List.mem_range.1 ha
      have hb' := List.mem_range.1 hb
      have he' : m.1 23 0 a = m.1 23 0 b := he
      exact ⟨fun p hp => (h.2 (m.1 23 0 a) a ha' (decide_eq_true rfl)).2 p hp b hb' (decide_eq_true he'.symm) (by omega), fun p hp => (h.2 (m.1 23 0 a) b hb' (decide_eq_true he'.symm)).2 p hp a ha' (decide_eq_true rfl) (by omega)⟩
  · intro h
    have hm : ∀ j, j < zCu0 m → zcr1 (m.1 23 0 j, m.1 24 0 j, m.2.1 25 0 j) := fun j hj => h.1 _ (List.mem_map.2 ⟨j, List.mem_range.2 hj, rfl⟩)
    have h2 := h.2
    unfold zLC at h2
    rw [List.pairwise_map, List.pairwise_iff_getElem] at h2
    refine ⟨fun j hj => ⟨(hm j hj).1, (hm j hj).2.1⟩, fun k i hi hP => ⟨(hm i hi).2.2, fun p hp j hj hPj hne => ?_⟩⟩
    have e : m.1 23 0 i = m.1 23 0 j := (of_decide_eq_true hP).trans (of_decide_eq_true hPj).symm
    by_cases hij : i < j
    · have z := h2 i j (by rw [List.length_range]; exact hi) (by rw [List.length_range]; exact hj) hij
      rw [List.getElem_range, List.getElem_range] at z
      exact (z e).1 p hp
    · have z := h2 j i (by rw [List.length_range]; exact hj) (by rw [List.length_range]; exact hi) (by omega)
      rw [List.getElem_range, List.getElem_range] at z
      exact (z e.symm).2 p hp
theorem zCe_f {m m1 : wm} {k : Int × Int × Int64 → Bool} (h : zCe m) (e : zLC m1 = (zLC m).filter k) : zCe m1 := zCe_L.2 (by rw [e]; exact zcel_f (zCe_L.1 h))
theorem zCe_0 {m : wm} (h : m.1 22 0 3 = 0) : zCe m := ⟨fun j hj => absurd hj (by unfold zCu0; omega), fun k i hi => absurd hi (by unfold zCu0; omega)⟩
