/-! The reference's receiver: room, what can be, a block that is solved. -/
def zsl (m : wm) (q k : Int) : Int := m.1 47 0 (24 * q + k).toNat
def zeR (k i j : Nat) : Prop := (k = 58) ∨ (k = 59) ∨ (k = 60) ∨ (k = 61) ∨ (k = 34 ∧ j = 30)
def zeS (k i j : Nat) : Prop := (k = 54)
theorem wuI_e {m : wm} {k i j0 : Nat} {X : Int} (j : Nat) : (wuI m k i j0 X).1 k i j = if j = j0 then X else m.1 k i j := by
  by_cases e : j = j0
  · rw [if_pos e, e]; exact wuI_self
  · rw [if_neg e]; exact wuI_nj (fun z => e z.2.2)
theorem wuI_o {m : wm} {k i j0 : Nat} {X : Int} {k' i' j : Nat} (h : k' ≠ k) : (wuI m k i j0 X).1 k' i' j = m.1 k' i' j := if_neg fun z => h z.1
/-- one more is dropped -/
def zDp (m0 m1 : wm) : Prop := zfr (fun k i j => (k = 34 ∧ j = 35)) m0 m1 ∧ m1.1 34 0 35 = m0.1 34 0 35 + 1
/-- a place whose rows may go -/
def zRq (m : wm) (p : Int) : Prop := p % 4 < 3 ∧ zHit m (m.1 34 0 30) (7 * p) (7 * p + 6)
def zRql (m : wm) (w k : Int) : Prop := (w = -1 ∧ ∀ p : Int, 0 ≤ p → p < k → ¬ zRq m p) ∨ (0 ≤ w ∧ w < k ∧ zRq m w ∧ ∀ p : Int, 0 ≤ p → p < k → zRq m p → m.1 50 0 w.toNat < m.1 50 0 p.toNat ∨ (m.1 50 0 w.toNat = m.1 50 0 p.toNat ∧ w ≤ p))
theorem zHit_no {m : wm} {f R : Int} (h : ∀ r : Nat, (r : Int) < R → ¬ (7 * f ≤ m.1 58 0 r ∧ m.1 58 0 r ≤ 7 * f + 6)) : ¬ zHit m R (7 * f) (7 * f + 6) := fun ⟨q, h1, h2, h3, h4⟩ => h q.toNat (by omega) ⟨h3, h4⟩
theorem zRql_0 {m : wm} : zRql m (-1) 0 := Or.inl ⟨rfl, fun p h1 h2 => absurd h2 (by omega)⟩
theorem zRql_n {m : wm} {w k : Int} (h : zRql m w k) (hn : ¬ zRq m k) : zRql m w (k + 1) := by
  rcases h with ⟨h1, h2⟩ | ⟨h1, h2, h3, h4⟩
  · refine Or.inl ⟨h1, fun p p1 p2 => ?_⟩
    by_cases e : p < k
    · exact h2 p p1 e
    · rw [show p = k by omega]; exact hn
  · refine Or.inr ⟨h1, by omega, h3, fun p p1 p2 p3 => ?_⟩
    by_cases e : p < k
    · exact h4 p p1 e p3
    · rw [show p = k by omega] at p3; exact absurd p3 hn
theorem zRql_k {m : wm} {w k : Int} (h : zRql m w k) (hw : 0 ≤ w) (hl : m.1 50 0 w.toNat ≤ m.1 50 0 k.toNat) : zRql m w (k + 1) := by
  rcases h with ⟨h1, h2⟩ | ⟨h1, h2, h3, h4⟩
  · omega
  · refine Or.inr ⟨h1, by omega, h3, fun p p1 p2 p3 => ?_⟩
    by_cases e : p < k
    · exact h4 p p1 e p3
    · rw [show p = k by omega]; omega
theorem zRql_s {m : wm} {w k : Int} (h : zRql m w k) (hk : 0 ≤ k) (hc : zRq m k) (hl : w < 0 ∨ m.1 50 0 k.toNat < m.1 50 0 w.toNat) : zRql m k (k + 1) := by
  rcases h with ⟨h1, h2⟩ | ⟨h1, h2, h3, h4⟩
  · refine Or.inr ⟨hk, by omega, hc, fun p p1 p2 p3 => ?_⟩
    by_cases e : p < k
    · exact absurd p3 (h2 p p1 e)
    · rw [show p = k by omega]; exact Or.inr ⟨rfl, Int.le_refl _⟩
  · refine Or.inr ⟨hk, by omega, hc, fun p p1 p2 p3 => ?_⟩
    by_cases e : p < k
    · have := h4 p p1 e p3; omega
    · rw [show p = k by omega]; exact Or.inr ⟨rfl, Int.le_refl _⟩
def zRm3 (m0 m1 : wm) : Prop := ∃ w, (0 ≤ w ∧ w < 8 ∧ zRql m0 w 8) ∧ ∃ md, zfr zeR m0 md ∧ zLR md = (zLR m0).filter (zkq (7 * w) (7 * w + 6) (-1)) ∧ zfr zeS md m1 ∧ zUf md m1 56
def zRm (m0 m1 : wm) (r : Int) : Prop := (r = 1 ∧ m0.1 34 0 30 ≤ 23 ∧ m0 = m1) ∨ (r = 0 ∧ m0.1 34 0 30 = 24 ∧ m0 = m1 ∧ ∀ p : Int, 0 ≤ p → p < 8 → ¬ zRq m0 p) ∨ (r = 1 ∧ m0.1 34 0 30 = 24 ∧ zRm3 m0 m1)
/-- all rows lost, sizes taken away -/
def zRs0 (m0 m1 : wm) : Prop := ∃ md, zfr (fun k i j => (k = 34 ∧ j = 0) ∨ (k = 34 ∧ j = 30)) m0 md ∧ md.1 34 0 30 = 0 ∧ zfr zeS md m1 ∧ zUf md m1 56
/-- a packet that can be: the reference -/
def zCbR (m : wm) (q : Int) : Prop := zsl m q 1 ≤ 1 ∧ 1 ≤ 256 * zsl m q 2 + zsl m q 3 ∧ zsl m q 4 ≤ 6 ∧ zsl m q 7 ≤ 104 ∧ (zsl m q 5 = 0 ∨ zsl m q 5 = 1 ∧ 64 < zsl m q 7) ∧ zsl m q 6 < zpb (zsl m q 7) (zsl m q 5) ∧ (m.1 50 0 (4 * zsl m q 1).toNat = 0 ∨ m.1 50 0 (4 * zsl m q 1).toNat ≤ 256 * zsl m q 2 + zsl m q 3)
/-- masks stay small -/
theorem zRb_L {m : wm} : zRb m ↔ ∀ r, r ∈ zLR m → 0 ≤ r.2.2.1 ∧ r.2.2.1 ≤ 255 := by
  constructor
  · intro h r hr
    unfold zLR at hr
    obtain ⟨j, hj, rfl⟩ := List.mem_map.1 hr
    exact h j (List.mem_range.1 hj)
  · intro h j hj
    exact h _ (List.mem_map.2 ⟨j, List.mem_range.2 hj, rfl⟩)
theorem zRb_f {m m1 : wm} {k : Int × Int × Int × Int64 → Bool} (h : zRb m) (e : zLR m1 = (zLR m).filter k) : zRb m1 := zRb_L.2 (by rw [e]; exact fun r hr => zRb_L.1 h r (List.mem_filter.1 hr).1)
theorem zRb_0 {m : wm} (h : m.1 34 0 30 = 0) : zRb m := fun j hj => absurd hj (by unfold zRu; omega)
theorem zRb_e {m m1 : wm} (h : zRb m) (e : zLR m1 = zLR m) : zRb m1 := zRb_L.2 (by rw [e]; exact zRb_L.1 h)
theorem zLR_e {e : Nat → Nat → Nat → Prop} {m m1 : wm} (hf : zfr e m m1) (h : ∀ k j, e k 0 j → k < 34 ∨ (k = 34 ∧ j ≠ 30) ∨ (34 < k ∧ k < 58) ∨ 61 < k) : zLR m1 = zLR m := zLR_fr hf (fun z => by have := h _ _ z; omega) (fun k j h1 h2 z => by have := h _ _ z; omega)
/-- the piece that a block's rows give, if they do -/
def zok (m : wm) (q b : Int) (s : Nat) (w : Int64) : Prop := (∃ v, zsq (zRp m q b) (zRw m) (zRu m) (2 ^ s, v)) → zsq (zRp m q b) (zRw m) (zRu m) (2 ^ s, w)
theorem zok_i {m : wm} {q b x r : Int} {v : Int64} {s : Nat} (h : (0 ≤ r ∧ r ≤ 2147483647 ∧ (zsf (zRp m q b) (zRw m) r.toNat (zRu m)).1 = x.toNat) ∨ (r = -1 ∧ ¬ ∃ v, zsq (zRp m q b) (zRw m) (zRu m) (x.toNat, v))) (hv : 0 ≤ r → v = (zsf (zRp m q b) (zRw m) r.toNat (zRu m)).2) (hx : x.toNat = 2 ^ s) : zok m q b s v := fun hz => by
  rcases h with ⟨h1, h2, h3⟩ | ⟨h1, h2⟩
  · have h4 : (2 ^ s, v) = zsf (zRp m q b) (zRw m) r.toNat (zRu m) := Prod.ext (by rw [h3, hx]) (hv h1)
    rw [h4]
    exact zsf_a _ _
  · rw [hx] at h2
    exact absurd hz h2
theorem zRp_fr {e : Nat → Nat → Nat → Prop} {m m1 : wm} (hf : zfr e m m1) (h : ∀ j, ¬ e 58 0 j ∧ ¬ e 59 0 j) (q b : Int) : zRp m1 q b = zRp m q b := by
  funext j
  unfold zRp
  rw [(hf 58 0 j (h j).1).1, (hf 59 0 j (h j).2).1]
theorem zRw_fr {e : Nat → Nat → Nat → Prop} {m m1 : wm} (hf : zfr e m m1) (h : ∀ j, ¬ e 60 0 j ∧ ¬ e 61 0 j) : zRw m1 = zRw m := by
  funext j
  unfold zRw
  rw [(hf 60 0 j (h j).1).1, (hf 61 0 j (h j).2).2.1]
theorem zRu_fr {e : Nat → Nat → Nat → Prop} {m m1 : wm} (hf : zfr e m m1) (h : ¬ e 34 0 30) : zRu m1 = zRu m := by
  unfold zRu
  rw [(hf 34 0 30 h).1]
def ze56 (k i j : Nat) : Prop := k = 56
theorem zok_56 {m m1 : wm} {q b : Int} {s : Nat} {v : Int64} (hf : zfr ze56 m m1) : zok m1 q b s v ↔ zok m q b s v := by
  unfold zok
  rw [zRp_fr hf (fun j => ⟨by unfold ze56; omega, by unfold ze56; omega⟩), zRw_fr hf (fun j => ⟨by unfold ze56; omega, by unfold ze56; omega⟩), zRu_fr hf (by unfold ze56; omega)]
theorem zRb_56 {m m1 : wm} (h : zRb m) (hf : zfr ze56 m m1) : zRb m1 := zRb_e h (zLR_e hf (fun k j z => by unfold ze56 at z; omega))
/-- bytes put, up to a place -/
def zSp (m0 m : wm) (Q b t k : Int) (v : Int64) : Prop := ∃ V : Nat → Int64, V t.toNat = v ∧ (∀ s : Nat, (s : Int) < t → zok m0 Q b s (V s)) ∧ (∀ s u : Nat, u < 8 → ((s : Int) < t ∨ (s : Int) = t ∧ (u : Int) < k) → 64 * b + 8 * (s : Int) + (u : Int) < 104 → m.1 56 0 (104 * Q + (64 * b + 8 * (s : Int) + (u : Int))).toNat = zb8 (V s) (8 * (7 - (u : Int)))) ∧ ∀ j : Int, 0 ≤ j → (j < 104 * Q + 64 * b ∨ 104 * Q + 64 * b + 8 * t + k ≤ j ∨ 104 * Q + 104 ≤ j) → m.1 56 0 j.toNat = m0.1 56 0 j.toNat
theorem zSp_i {m : wm} {Q b : Int} : zSp m m Q b 0 0 0 := ⟨fun _ => 0, rfl, fun s hs => absurd hs (by omega), fun s u h1 h2 => absurd h2 (by omega), fun _ _ _ => rfl⟩
theorem zSp_0 {m0 m : wm} {Q b t : Int} {v v' : Int64} (h : zSp m0 m Q b t 0 v') (ht : 0 ≤ t) : zSp m0 m Q b t 0 v := by
  obtain ⟨V, h1, h2, h3, h4⟩ := h
  refine ⟨fun s => if s = t.toNat then v else V s, if_pos rfl, fun s hs => ?_, fun s u u8 hs hl => ?_, h4⟩
  · show zok m0 Q b s (if s = t.toNat then v else V s)
    rw [if_neg (by omega)]; exact h2 s hs
  · show m.1 56 0 (104 * Q + (64 * b + 8 * (s : Int) + (u : Int))).toNat = zb8 (if s = t.toNat then v else V s) (8 * (7 - (u : Int)))
    rw [if_neg (by omega)]; exact h3 s u u8 hs hl
theorem zSp_8 {m0 m : wm} {Q b t : Int} {v : Int64} (h : zSp m0 m Q b t 8 v) (ht : 0 ≤ t) (hv : zok m0 Q b t.toNat v) : ∃ v', zSp m0 m Q b (t + 1) 0 v' := by
  obtain ⟨V, h1, h2, h3, h4⟩ := h
  refine ⟨_, V, rfl, fun s hs => ?_, fun s u u8 hs hl => h3 s u u8 (by omega) hl, fun j hj hl => h4 j hj (by omega)⟩
  by_cases e : (s : Int) < t
  · exact h2 s e
  · rw [show s = t.toNat by omega, h1]; exact hv
theorem zSp_n {m0 m : wm} {Q b t k : Int} {v : Int64} (h : zSp m0 m Q b t k v) (ht : 0 ≤ t ∧ 0 ≤ k ∧ 0 ≤ b) (ha : 104 ≤ 64 * b + 8 * t + k) : zSp m0 m Q b t (k + 1) v := by
  obtain ⟨V, h1, h2, h3, h4⟩ := h
  refine ⟨V, h1, h2, fun s u u8 hs hl => h3 s u u8 (by omega) hl, fun j hj hl => h4 j hj (by omega)⟩
theorem zSp_w {m0 m m1 : wm} {Q b t k a X : Int} {v : Int64} (h : zSp m0 m Q b t k v) (hq : 0 ≤ Q) (ht : 0 ≤ t ∧ 0 ≤ k ∧ 0 ≤ b ∧ k < 8) (ha : a = 64 * b + 8 * t + k) (hl : a < 104) (hX : X = zb8 v (56 - 8 * k)) (hm : m1 = wuI m 56 0 (104 * Q + a).toNat X) : zSp m0 m1 Q b t (k + 1) v := by
  obtain ⟨V, h1, h2, h3, h4⟩ := h
  refine ⟨V, h1, h2, fun s u u8 hs hl2 => ?_, fun j hj hl2 => ?_⟩
  · rw [hm]
    by_cases e : (s : Int) = t ∧ (u : Int) = k
    · rw [show (104 * Q + (64 * b + 8 * (s : Int) + (u : Int))) = 104 * Q + a by omega, wuI_at (by omega) (by omega), if_pos rfl, hX, ← h1, show t.toNat = s by omega, show 56 - 8 * k = 8 * (7 - (u : Int)) by omega]
    · rw [wuI_at (by omega) (by omega), if_neg (by omega)]
      exact h3 s u u8 (by omega) hl2
  · rw [hm, wuI_at (by omega) hj, if_neg (by omega)]
    exact h4 j hj (by omega)
/-- a block solved: the reference -/
def zeV (k i j : Nat) : Prop := (k = 58) ∨ (k = 59) ∨ (k = 60) ∨ (k = 61) ∨ (k = 34 ∧ j = 30) ∨ (k = 56) ∨ (k = 55)
def zSv (m0 m1 : wm) (Q b n : Int) : Prop := zfr zeV m0 m1 ∧ (∃ m v, zSp m0 m Q b n 0 v ∧ m1.1 56 0 = m.1 56 0) ∧ zLR m1 = (zLR m0).filter (zkq Q Q b) ∧ ∀ j : Int, 0 ≤ j → m1.1 55 0 j.toNat = if j = 2 * Q + b then 1 else m0.1 55 0 j.toNat
/-- a row more -/
def zeA (k i j : Nat) : Prop := (k = 58) ∨ (k = 59) ∨ (k = 60) ∨ (k = 61) ∨ (k = 34 ∧ j = 30) ∨ (k = 54)
def zRa (m0 m1 : wm) (Q b M : Int) (v : Int64) (S : Int) : Prop := zfr zeA m0 m1 ∧ m1.1 34 0 30 = m0.1 34 0 30 + 1 ∧ zLR m1 = zLR m0 ++ [(Q, b, M, v)] ∧ ∀ j : Int, 0 ≤ j → m1.1 54 0 j.toNat = if j = Q then S else m0.1 54 0 j.toNat
theorem zRa_w {m0 ma mb mc md me mf : wm} {Q b M S : Int} {v : Int64} (hu : 0 ≤ m0.1 34 0 30) (hQ : 0 ≤ Q) (ha : ma = wuI m0 58 0 (m0.1 34 0 30).toNat Q) (hb : mb = wuI ma 59 0 (ma.1 34 0 30).toNat b) (hc : mc = wuI mb 60 0 (mb.1 34 0 30).toNat M) (hd : md = wuL mc 61 0 (mc.1 34 0 30).toNat v) (he : me = wuI md 34 0 30 (md.1 34 0 30 + 1)) (hf : mf = wuI me 54 0 Q.toNat S) : zRa m0 mf Q b M v S := by
  have e34 : mf.1 34 0 30 = m0.1 34 0 30 + 1 := by rw [hf, he, hd, hc, hb, ha]; rfl
  have u1 : zRu mf = zRu m0 + 1 := by unfold zRu; rw [e34]; omega
  have k58 : ∀ j, mf.1 58 0 j = if j = zRu m0 then Q else m0.1 58 0 j := fun j => by
    rw [hf, he, hd, hc, hb, ha]
    by_cases e : j = zRu m0
    · rw [if_pos e, e]; exact wuI_self
    · rw [if_neg e]; show (wuI m0 58 0 (zRu m0) Q).1 58 0 j = _; exact wuI_nj (fun z => e z.2.2)
  have k59 : ∀ j, mf.1 59 0 j = if j = zRu m0 then b else m0.1 59 0 j := fun j => by
    rw [hf, he, hd, hc, hb, ha]
    by_cases e : j = zRu m0
    · rw [if_pos e, e]; exact wuI_self
    · rw [if_neg e]; show (wuI m0 59 0 (zRu m0) b).1 59 0 j = _; exact wuI_nj (fun z => e z.2.2)
  have k60 : ∀ j, mf.1 60 0 j = if j = zRu m0 then M else m0.1 60 0 j := fun j => by
    rw [hf, he, hd, hc, hb, ha]
    by_cases e : j = zRu m0
    · rw [if_pos e, e]; exact wuI_self
    · rw [if_neg e]; show (wuI m0 60 0 (zRu m0) M).1 60 0 j = _; exact wuI_nj (fun z => e z.2.2)
  have k61 : ∀ j, mf.2.1 61 0 j = if j = zRu m0 then v else m0.2.1 61 0 j := fun j => by
    rw [hf, he, hd, hc, hb, ha]
    by_cases e : j = zRu m0
    · rw [if_pos e, e]; exact wuL_sf
    · rw [if_neg e]; exact wuL_nf e
  refine ⟨?_, e34, ?_, fun j hj => by rw [hf, wuI_at hQ hj]; by_cases e : j = Q; (rw [if_pos e, if_pos e]); (rw [if_neg e, if_neg e, he, hd, hc, hb, ha]; rfl)⟩
  · rw [hf, he, hd, hc, hb, ha]
    exact zfr_wI (zfr_wI (zfr_wL (zfr_wI (zfr_wI (zfr_wI zfr_rf (Or.inl rfl)) (Or.inr (Or.inl rfl))) (Or.inr (Or.inr (Or.inl rfl)))) (Or.inr (Or.inr (Or.inr (Or.inl rfl))))) (Or.inr (Or.inr (Or.inr (Or.inr (Or.inl ⟨rfl, rfl⟩)))))) (Or.inr (Or.inr (Or.inr (Or.inr (Or.inr rfl)))))
  · unfold zLR
    rw [u1, List.range_succ, List.map_append, List.map_cons, List.map_nil, k58, k59, k60, k61, if_pos rfl, if_pos rfl, if_pos rfl, if_pos rfl]
    congr 1
    refine List.map_congr_left fun j hj => ?_
    have hj2 : j ≠ zRu m0 := Nat.ne_of_lt (List.mem_range.1 hj)
    rw [k58, k59, k60, k61, if_neg hj2, if_neg hj2, if_neg hj2, if_neg hj2]
theorem zRb_a {m m1 : wm} {Q b M S : Int} {v : Int64} (h : zRb m) (e : zRa m m1 Q b M v S) (hM : 0 ≤ M ∧ M ≤ 255) : zRb m1 := zRb_L.2 (by
  rw [e.2.2.1]
  intro r hr
  rcases List.mem_append.1 hr with z | z
  · exact zRb_L.1 h r z
  · rw [List.mem_singleton.1 z]; exact hM)
