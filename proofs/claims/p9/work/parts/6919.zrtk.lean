/-! The reference's receiver: a packet taken. -/
def zTo (m : wm) (q f i b : Int) : Prop := (0 ≤ m.1 54 0 (7 * f + i).toNat ∧ m.1 54 0 (7 * f + i).toNat ≠ zsl m q 7) ∨ m.1 55 0 (2 * (7 * f + i) + b).toNat = 1
def zTn (m : wm) (q b : Int) : Int := zpc (zsl m q 7) b
def zTM (m : wm) (q f i b : Int) : Int := zmk (m.1 50 0 f.toNat) i b (zsl m q 6) (zTn m q b)
def zTt (m : wm) (q f i b : Int) : Prop := ∃ v, zsq (zRp m (7 * f + i) b) (zRw m) (zRu m) ((zTM m q f i b).toNat, v)
def zTv (m : wm) (q : Int) : Int64 := zen (fun k : Nat => m.1 47 0 (24 * q.toNat + 8 + k)) 8
theorem zTv_fr {e : Nat → Nat → Nat → Prop} {m m1 : wm} {q : Int} (hf : zfr e m m1) (h : ∀ j, ¬ e 47 0 j) : zTv m1 q = zTv m q := zen_c fun k _ => (hf 47 0 _ (h _)).1
theorem zsum_y {m : wm} {q b x r : Int} (h : (0 ≤ r ∧ r ≤ 2147483647 ∧ (zsf (zRp m q b) (zRw m) r.toNat (zRu m)).1 = x.toNat) ∨ (r = -1 ∧ ¬ ∃ v, zsq (zRp m q b) (zRw m) (zRu m) (x.toNat, v))) (hr : 0 ≤ r) : ∃ v, zsq (zRp m q b) (zRw m) (zRu m) (x.toNat, v) := by
  rcases h with ⟨h1, h2, h3⟩ | ⟨h1, h2⟩
  · refine ⟨(zsf (zRp m q b) (zRw m) r.toNat (zRu m)).2, ?_⟩
    rw [← h3]
    exact zsf_a _ _
  · omega
theorem zsum_n {m : wm} {q b x r : Int} (h : (0 ≤ r ∧ r ≤ 2147483647 ∧ (zsf (zRp m q b) (zRw m) r.toNat (zRu m)).1 = x.toNat) ∨ (r = -1 ∧ ¬ ∃ v, zsq (zRp m q b) (zRw m) (zRu m) (x.toNat, v))) (hr : r < 0) : ¬ ∃ v, zsq (zRp m q b) (zRw m) (zRu m) (x.toNat, v) := by
  rcases h with ⟨h1, h2, h3⟩ | ⟨h1, h2⟩
  · omega
  · exact h2
def zT1 (m0 m : wm) (q f i b : Int) : Prop := ¬ zTo m0 q f i b ∧ ¬ zTt m0 q f i b ∧ zRm m0 m 1
def zT2 (m0 m : wm) (q f i b : Int) : Prop := ∃ mr, zT1 m0 mr q f i b ∧ zRa mr m (7 * f + i) b (zTM m0 q f i b) (zTv m0 q) (zsl m0 q 7)
def zT3 (m0 m : wm) (q f i b : Int) : Prop := ∃ m2, zT2 m0 m2 q f i b ∧ ((((zct (zRp m2 (7 * f + i) b) (zRu m2) : Nat) : Int) = zTn m0 q b ∧ zSv m2 m (7 * f + i) b (zTn m0 q b)) ∨ (((zct (zRp m2 (7 * f + i) b) (zRu m2) : Nat) : Int) ≠ zTn m0 q b ∧ m2 = m))
def zT3c (m : wm) (f i : Int) : Prop := zCmR m (7 * f + i) ∧ m.1 57 0 (7 * f + i).toNat ≠ 1
def zT4 (m0 m : wm) (q f i b : Int) : Prop := ∃ m3, zT3 m0 m3 q f i b ∧ zT3c m3 f i ∧ zCo m3 m f i
def zeJ (k i j : Nat) : Prop := (k = 34 ∧ j = 48) ∨ (k = 34 ∧ j = 47) ∨ (k = 71) ∨ (k = 72) ∨ (k = 53)
def zT5 (m0 m : wm) (q f i b : Int) : Prop := ∃ m4 m5, zT4 m0 m4 q f i b ∧ zBk (f / 4) m4 m5 ∧ zBcl m5 (f / 4) ∧ zfr zeJ m5 m
def zTkR (m0 m1 : wm) (q f i b r : Int) : Prop := (r = 4 ∧ zTo m0 q f i b ∧ zDp m0 m1) ∨ (r = 5 ∧ ¬ zTo m0 q f i b ∧ zTt m0 q f i b ∧ zDp m0 m1) ∨ (r = 6 ∧ ¬ zTo m0 q f i b ∧ ¬ zTt m0 q f i b ∧ ∃ mr, zRm m0 mr 0 ∧ zDp mr m1) ∨ (r = 0 ∧ ((∃ m3, zT3 m0 m3 q f i b ∧ ¬ zT3c m3 f i ∧ m3 = m1) ∨ zT5 m0 m1 q f i b))
/-- heard -/
def zHsR (m : wm) (q : Int) : Prop := zhh (fun k : Nat => m.1 47 0 (24 * q.toNat + k)) 16 = zen (fun k : Nat => m.1 47 0 (24 * q.toNat + 16 + k)) 8
def zLf9 (m0 m1 : wm) (q : Int) : Prop := (m0.1 34 0 21 = zsl m0 q 0 ∧ m0 = m1) ∨ (m0.1 34 0 21 < zsl m0 q 0 ∧ ∃ md, zfr (fun k i j => (k = 34 ∧ j = 21) ∨ (k = 34 ∧ j = 30)) m0 md ∧ md.1 34 0 21 = zsl m0 q 0 ∧ md.1 34 0 30 = 0 ∧ zfr zeS md m1 ∧ zUf md m1 56)
def zeH (k i j : Nat) : Prop := (k = 50) ∨ (k = 51) ∨ (k = 52) ∨ (k = 53) ∨ (k = 54) ∨ (k = 57) ∨ (k = 55) ∨ (k = 56) ∨ (k = 58) ∨ (k = 58) ∨ (k = 59) ∨ (k = 60) ∨ (k = 61) ∨ (k = 34 ∧ j = 30)
def zHe2 (m0 m1 : wm) (q p : Int) : Prop := zfr zeH m0 m1 ∧ (4 * zsl m0 q 1 ≤ p ∧ p ≤ 4 * zsl m0 q 1 + 3) ∧ ((m0.1 50 0 p.toNat = 256 * zsl m0 q 2 + zsl m0 q 3 ∧ m0 = m1) ∨ zHr m0 m1 (zsl m0 q 1) (256 * zsl m0 q 2 + zsl m0 q 3) p)
def zH1 (m0 m : wm) (q : Int) : Prop := zfr (fun k i j => (k = 34 ∧ j = 0)) m0 m ∧ zHsR m q ∧ m.1 34 0 21 ≤ zsl m q 0
def zH2 (m0 m : wm) (q : Int) : Prop := ∃ mf, zH1 m0 mf q ∧ zLf9 mf m q
def zH3 (m0 m : wm) (q : Int) : Prop := zH2 m0 m q ∧ zCbR m q
def zHear (m0 m1 : wm) (q r : Int) : Prop := (r = 1 ∧ ∃ mf, zfr (fun k i j => (k = 34 ∧ j = 0)) m0 mf ∧ ¬ zHsR mf q ∧ zDp mf m1) ∨ (r = 2 ∧ ∃ mf, zfr (fun k i j => (k = 34 ∧ j = 0)) m0 mf ∧ zHsR mf q ∧ zsl mf q 0 < mf.1 34 0 21 ∧ zDp mf m1) ∨ (r = 3 ∧ ∃ ml, zH2 m0 ml q ∧ ¬ zCbR ml q ∧ zDp ml m1) ∨ ∃ ml mh p, zH3 m0 ml q ∧ zHe2 ml mh q p ∧ zTkR mh m1 q p (zsl mh q 4) (zsl mh q 5) r
theorem zRb_hr {m m1 : wm} {f x a : Int} (h : zRb m) (e : zHr m m1 f x a) : zRb m1 := by
  obtain ⟨-, -, -, m9, h9, h8⟩ := e
  have h7 : zLR m1 = ((zLR m).filter (zkp (4 * f) 7)).map (zrn f a) := by rw [h8]; exact h9.2.2.2.2.2.2.2
  refine zRb_L.2 ?_
  rw [h7]
  intro r hr
  obtain ⟨r0, hr0, rfl⟩ := List.mem_map.1 hr
  have z := zRb_L.1 h r0 (List.mem_filter.1 hr0).1
  unfold zrn
  split
  · exact z
  · exact z
theorem zRb_lf {m m1 : wm} {q : Int} (h : zRb m) (e : zLf9 m m1 q) : zRb m1 := by
  rcases e with ⟨-, rfl⟩ | ⟨-, md, -, -, h4, h5, -⟩
  · exact h
  · exact zRb_e (zRb_0 h4) (zLR_e h5 (fun k j z => by unfold zeS at z; omega))
theorem zRb_rm {m m1 : wm} {r : Int} (h : zRb m) (e : zRm m m1 r) : zRb m1 := by
  rcases e with ⟨-, -, rfl⟩ | ⟨-, -, rfl, -⟩ | ⟨-, -, w, -, md, -, h4, h5, -⟩
  · exact h
  · exact h
  · exact zRb_e (zRb_f h h4) (zLR_e h5 (fun k j z => by unfold zeS at z; omega))
/-- rank -/
def zRkR (m : wm) (f x y b r : Int) : Prop := ((∀ q : Nat, q < 4 → m.1 50 0 (4 * f.toNat + q) ≠ x) ∧ r = 0) ∨ ∃ p : Int, (4 * f ≤ p ∧ p ≤ 4 * f + 3 ∧ m.1 50 0 p.toNat = x) ∧ ((m.1 55 0 (2 * (7 * p + y) + b).toNat = 1 ∧ r = 8) ∨ (m.1 55 0 (2 * (7 * p + y) + b).toNat = 0 ∧ r = ((zct (zRp m (7 * p + y) b) (zRu m) : Nat) : Int)))
def zRkF (m0 : wm) (f x y b r : Int) : Prop := ∃ mf, zfr (fun k i j => (k = 34 ∧ j = 0)) m0 mf ∧ zRkR mf f x y b r
