/-! Both receivers side by side: files held for each other, to the end. -/
theorem zfl9 {a b : wm} (h : zR0 a b) {t : Nat} (ht : t < 8) (hf : 1 ≤ a.1 26 t 9) : ∃ p, zPr a b t p ∧ a.1 26 t 10 = 1 := by
  have h0 : a.1 26 t 7 ≠ 0 := fun z => by have := h.2.2.2.2.2.2.2.1 t ht z; omega
  obtain ⟨p, p1, p2, p3⟩ := h.1.2.2.2.1 t ht h0
  have p3' : b.1 50 0 p = a.1 26 t 7 := p3
  have hp : zPr a b t p := ⟨ht, p1, p2.symm, p3'.symm, by rw [p3']; exact h0⟩
  refine ⟨p, hp, ?_⟩
  rcases (h.2.1 t p hp).2.1 with z | z
  · exact z
  · omega
theorem zf6 {a b : wm} (h : zR0 a b) (t : Nat) (ht : t < 8) : a.1 26 t 9 ≤ 6 := by
  apply Classical.byContradiction
  intro hn
  obtain ⟨p, hp, hg⟩ := zfl9 h ht (by omega)
  obtain ⟨w1, w2, w3, -⟩ := (h.2.1 t p hp).2.2.1 hg
  have := w2.2.2.1
  omega
theorem zhz0 {a b : wm} (h : zR0 a b) : zHsz a a := fun t i ht hi h1 h2 hh => by
  obtain ⟨p, hp, hg⟩ := zfl9 h ht (by omega)
  exact ((h.2.1 t p hp).2.2.2 i hi hh).2.2.2.2
theorem zA1 {a b : wm} {x : Int} (h : zR0 a b) (hx : 0 ≤ x ∧ x ≤ 1) : ∀ (n : Nat) (m : wm), zHkn x a n m → zHsm x.toNat a m := by
  intro n
  induction n with
  | zero => intro m hm; rw [hm]; exact zHsm_0
  | succ n ih =>
    rintro m1 ⟨m, y, z, h1, h2, h3, h4, h5, h6⟩
    have s := ih m h1
    have e : m.1 26 (4 * x.toNat + y.toNat) 9 = a.1 26 (4 * x.toNat + y.toNat) 9 := (s.1 26 _ 9 (Or.inl rfl)).1
    have := zf6 h (4 * x.toNat + y.toNat) (by omega)
    exact zHsm_s hx s (zhz0 h) ⟨h2, h3⟩ ⟨h4, by omega⟩ h5 h6 (zf6 h)
theorem zst_tm {a b m : wm} {t p f : Nat} {T : Nat → Nat → Int} (h : zR0 a b) (hB : zBsm f T b m) (hp : zPr a b t p) (hg : a.1 26 t 10 = 1) {i : Nat} (h1 : 1 ≤ i) (h2 : (i : Int) ≤ a.1 26 t 9) : a.1 32 t (i - 1) = zSt m (p : Int) (i : Int) ∧ a.2.1 33 t (i - 1) = zHt m (p : Int) (i : Int) := by
  have hv := (h.2.1 t p hp).2
  have p2 := hp.2.1
  obtain ⟨w1, w2, -⟩ := hv.2.1 hg
  have s104 := zMan_S w2
  have e3 := (zst_f0 h hp w1 s104).2.2
  have z := zst_tld hv hg (f := zby m (p : Int)) (fun x x0 x1 => by
    rw [← e3 x x0 x1]
    unfold zby
    rcases hB.2.1 (7 * p) (by omega) with y | y
    · have := y.2.2.2.2 x.toNat (by omega)
      rw [show (728 * (p : Int) + x).toNat = 104 * (7 * p) + x.toNat by omega]; exact this
    · have := y.2.2.2.1
      omega) h1 h2
  unfold zSt zHt
  rw [show ((i : Int) - 1).toNat = i - 1 by omega, Int.toNat_natCast]
  exact z
theorem zgd {a b : wm} (h : zR0 a b) {p : Nat} (hp : p < 8) (hg : b.1 51 0 p = 1) : ∃ t, zPr a b t p ∧ a.1 26 t 10 = 1 := by
  have h0 : b.1 50 0 p ≠ 0 := fun z => by have := (h.2.2.2.2.2.2.2.2 p hp z).1; omega
  obtain ⟨t, t1, t2, t3⟩ := h.1.2.2.2.2 p hp h0
  have hpr : zPr a b t p := ⟨t1, hp, t2, t3, h0⟩
  exact ⟨t, hpr, by rw [(h.2.1 t p hpr).1.1.1]; exact hg⟩
def zTt9 (b : wm) (p i : Nat) : Int := zSt b (p : Int) (i : Int)
theorem zB1 {a b : wm} {f : Nat} (h : zR0 a b) (hf : f < 2) : ∀ (n : Nat) (m : wm), zBkn (f : Int) b n m → zBsm f (zTt9 b) b m := by
  intro n
  induction n with
  | zero => intro m hm; rw [hm]; exact zBsm_0
  | succ n ih =>
    rintro m1 ⟨m, p, i, h1, ⟨h2, h3, h4, h5, h6⟩, h7⟩
    have s := ih m h1
    have g : b.1 51 0 p.toNat = 1 := by rw [← s.1 51 _ (by omega)]; exact h6
    obtain ⟨t, hp, hg⟩ := zgd h (p := p.toNat) (by omega) g
    have e2 : m.1 52 0 p.toNat = a.1 26 t 9 := by rw [s.1 52 _ (by omega)]; exact (h.2.1 t _ hp).1.1.2.symm
    have := zf6 h t hp.1
    have y1 := zst_tm h s hp hg (i := i.toNat) (by omega) (by omega)
    have y2 := zst_told h hp hg (i := i.toNat) (by omega) (by omega)
    rw [show ((p.toNat : Nat) : Int) = p by omega, show ((i.toNat : Nat) : Int) = i by omega] at y1 y2
    have eT : zSt m p i = zTt9 b p.toNat i.toNat := by
      unfold zTt9
      rw [show ((p.toNat : Nat) : Int) = p by omega, show ((i.toNat : Nat) : Int) = i by omega, ← y1.1, ← y2.1]
    refine zBsm_s (fun r hr => ?_) s hf ⟨by omega, by omega⟩ ⟨h4, by omega⟩ h5 h6 eT ?_ h7
    · have := h.2.2.1.2.1 r hr
      exact ⟨this.1, this.2.1⟩
    · obtain ⟨-, -, -, -, g', k, gk, ⟨al1, al2, al3⟩, -⟩ := h7
      rw [← eT, ← al2]
      rw [show (7 * g' + k).toNat = 7 * g'.toNat + k.toNat by omega] at al1 ⊢
      rcases s.2.1 (7 * g'.toNat + k.toNat) (by omega) with y | y
      · rw [y.1] at al1
        have kg : b.1 50 0 g'.toNat ≠ 0 := fun z0 => by
          have := (h.2.2.2.2.2.2.2.2 g'.toNat (by omega) z0).2 k.toNat (by omega)
          omega
        obtain ⟨tg, g1, g2, g3⟩ := h.1.2.2.2.2 g'.toNat (by omega) kg
        have hpg : zPr a b tg g'.toNat := ⟨g1, by omega, g2, g3, kg⟩
        obtain ⟨⟨-, v3, v4, v5, -⟩, -, -, c3⟩ := h.2.1 tg _ hpg
        have w4 := (c3 k.toNat (by omega) (by rw [v4 _ (by omega)]; exact al1)).2.2.2.1
        rw [y.2.1]
        exact h.2.2.2.2.2.2.1 (7 * g'.toNat + k.toNat) (by omega) (zHas_L.2 (Or.inl (by rw [show 2 * (7 * g'.toNat + k.toNat) = 14 * g'.toNat + 2 * k.toNat by omega, ← v3 _ (by omega)]; exact w4.1)))
      · obtain ⟨-, -, -, -, -, -, y7, -, -, y0⟩ := y
        rw [y7]; exact y0
/-- the size of what the reference holds -/
theorem zszb {a b m : wm} {t p f i : Nat} (h : zR0 a b) (hB : zBsm f (zTt9 b) b m) (hp : zPr a b t p) (hi : i < 7) (hh : m.1 57 0 (7 * p + i) = 1) : 1 ≤ i ∧ (i : Int) ≤ a.1 26 t 9 ∧ a.1 26 t 10 = 1 ∧ m.1 54 0 (7 * p + i) = a.1 32 t (i - 1) := by
  obtain ⟨⟨⟨v1, v2⟩, v3, v4, v5, v6⟩, c1, c2, c3⟩ := h.2.1 t p hp
  have p2 := hp.2.1
  rcases hB.2.1 (7 * p + i) (by omega) with z | z
  · have e : a.1 29 t i = 1 := by rw [v4 i hi, ← z.1]; exact hh
    obtain ⟨w1, w2, w3, w4, w5⟩ := c3 i hi e
    refine ⟨w1, w2, w3, ?_⟩
    have w6 := h.2.2.2.2.2.2.1 (7 * p + i) (by omega) (zHas_L.2 (Or.inl (by rw [show 2 * (7 * p + i) = 14 * p + 2 * i by omega, ← v3 _ (by omega)]; exact w4.1)))
    rw [z.2.1, ← v5 i hi w6]; exact w5
  · obtain ⟨y1, y2, y3, y4, y5, y6, y7, -⟩ := z
    rw [show (7 * p + i) / 7 = p by omega] at y5 y6 y7
    rw [show (7 * p + i) % 7 = i by omega] at y4 y6 y7
    rw [← v1] at y5
    rw [← v2] at y6
    refine ⟨y4, y6, y5, ?_⟩
    rw [y7]
    exact (zst_told h hp y5 y4 y6).1.symm
theorem zA2 {a b b1 : wm} {f : Nat} (h : zR0 a b) (hf : f < 2) (hB : zBsm f (zTt9 b) b b1) (hcl : zBcl b1 (f : Int)) : ∀ (n : Nat) (m : wm), zHkn (f : Int) a n m → ∀ t p, zPr a b t p → ∀ i, i < 7 → m.1 29 t i = 1 → b1.1 57 0 (7 * p + i) = 1 := by
  intro n
  induction n with
  | zero =>
    intro m hm t p hp i hi hh
    rw [hm] at hh
    have p2 := hp.2.1
    have v4 := (h.2.1 t p hp).1.2.2.1 i hi
    rcases hB.2.1 (7 * p + i) (by omega) with z | z
    · rw [z.1, ← v4]; exact hh
    · exact z.2.1
  | succ n ih =>
    rintro m1 ⟨m, y, z, h1, h2, h3, h4, h5, h6⟩ t p hp i hi hh
    have s := zA1 h (x := (f : Int)) (by omega) n m h1
    obtain ⟨s1, s2, s3, w, q, w1, w2, w3, w4, w5, w6⟩ := h6
    rw [Int.toNat_natCast] at *
    by_cases e : t = 4 * f + y.toNat ∧ i = z.toNat
    · obtain ⟨e1, e2⟩ := e
      have e26 : ∀ t j, m.1 26 t j = a.1 26 t j := fun t j => (s.1 26 t j (Or.inl rfl)).1
      have e32 : ∀ t j, m.1 32 t j = a.1 32 t j := fun t j => (s.1 32 t j (Or.inr (by omega))).1
      have e33 : ∀ t j, m.2.1 33 t j = a.2.1 33 t j := fun t j => (s.1 33 t j (Or.inr (by omega))).2
      obtain ⟨u1, u2, u3⟩ := w5
      rw [e26] at w4 h5
      rw [e32, e32] at u2
      rw [e33, e33] at u3
      have q6 := zf6 h (4 * f + w) (by omega)
      obtain ⟨pw, hpw, hgw⟩ := zfl9 h (t := 4 * f + w) (by omega) (by omega)
      obtain ⟨p0, hp0, hg0⟩ := zfl9 h (t := t) hp.1 (by rw [e1]; omega)
      have ep : p0 = p := zSo_u h.1.1 hp0.2.1 hp.2.1 (by have := hp0.2.2.1; have := hp.2.2.1; omega) (by rw [← hp0.2.2.2.1, hp.2.2.2.1]) hp0.2.2.2.2
      have hw := ih m h1 (4 * f + w) pw hpw q (by omega) u1
      obtain ⟨y1, y2, y3, y4⟩ := zszb h hB hpw (by omega) hw
      have tw := zst_tm h hB hpw hgw (i := q) w3 w4
      have t0 := zst_tm h hB hp hg0 (i := i) (by omega) (by rw [e1, e2]; omega)
      have v := (h.2.1 t p hp).1.1
      have pf := hp.2.2.1
      have pwf := hpw.2.2.1
      rcases hcl (p : Int) (i : Int) (by omega) (by omega) (by rw [Int.toNat_natCast, hB.1 51 _ (by omega), ← v.1]; exact hg0) (by omega) (by rw [Int.toNat_natCast, hB.1 52 _ (by omega), ← v.2, e1, e2]; omega) with c | c
      · rw [show (7 * (p : Int) + (i : Int)).toNat = 7 * p + i by omega] at c; exact c
      · refine absurd ⟨?_, ?_, ?_⟩ (c (pw : Int) (q : Int) (by omega) (by omega) (fun z9 => ?_) (by omega) (by omega))
        · have z8 : pw = p := by omega
          have := h.1.2.2.1 (4 * f + w) t hpw.1 hp.1 (by omega) (by show a.1 26 (4 * f + w) 7 = a.1 26 t 7; rw [hpw.2.2.2.1, hp.2.2.2.1, z8]) (by show a.1 26 (4 * f + w) 7 ≠ 0; rw [hpw.2.2.2.1]; exact hpw.2.2.2.2)
          omega
        · rw [show (7 * (pw : Int) + (q : Int)).toNat = 7 * pw + q by omega]; exact hw
        · rw [show (7 * (pw : Int) + (q : Int)).toNat = 7 * pw + q by omega, y4, ← t0.1, u2, e1, e2]
        · rw [← tw.2, ← t0.2, u3, e1, e2]
    · have f29 := (s2 29 t i (by unfold zEh; omega)).1
      rw [f29] at hh
      exact ih m h1 t p hp i hi hh
theorem zB2 {a a1 b : wm} {f : Nat} (h : zR0 a b) (hf : f < 2) (hA : zHsm f a a1) (hcl : zHcl a1 (f : Int)) : ∀ (n : Nat) (m : wm), zBkn (f : Int) b n m → ∀ t p, zPr a b t p → ∀ i, i < 7 → m.1 57 0 (7 * p + i) = 1 → a1.1 29 t i = 1 := by
  intro n
  induction n with
  | zero =>
    intro m hm t p hp i hi hh
    rw [hm] at hh
    have v4 := (h.2.1 t p hp).1.2.2.1 i hi
    rcases hA.2.1 t i hp.1 hi with z | z
    · rw [z.1, v4]; exact hh
    · exact z.2.1
  | succ n ih =>
    rintro m1 ⟨m, p', i', h1, ⟨h2, h3, h4, h5, h6⟩, h7⟩ t p hp i hi hh
    have s := zB1 h hf n m h1
    obtain ⟨s1, s2, s3, s4, g, k, gk, ⟨al1, al2, al3⟩, -⟩ := h7
    have g' : b.1 51 0 p'.toNat = 1 := by rw [← s.1 51 _ (by omega)]; exact h6
    obtain ⟨t', hp', -⟩ := zgd h (p := p'.toNat) (by omega) g'
    have i6 : m.1 52 0 p'.toNat ≤ 6 := by rw [s.1 52 _ (by omega), ← (h.2.1 t' _ hp').1.1.2]; exact zf6 h t' hp'.1
    have t57 := s3 ((7 * p + i : Nat) : Int) (by omega)
    rw [Int.toNat_natCast] at t57
    by_cases e : (p : Int) = p' ∧ (i : Int) = i'
    · obtain ⟨e1, e2⟩ := e
      rw [show (7 * g + k).toNat = 7 * g.toNat + k.toNat by omega] at al1 al2
      have pf := hp.2.2.1
      have p8 := hp.2.1
      -- the holder's place is known
      have kg : b.1 50 0 g.toNat ≠ 0 := fun z0 => by
        obtain ⟨y1, y2⟩ := h.2.2.2.2.2.2.2.2 g.toNat (by omega) z0
        rcases s.2.1 (7 * g.toNat + k.toNat) (by omega) with y | y
        · rw [y.1, y2 k.toNat (by omega)] at al1; omega
        · have := y.2.2.2.2.1
          rw [show (7 * g.toNat + k.toNat) / 7 = g.toNat by omega] at this
          omega
      obtain ⟨tg, g1, g2, g3⟩ := h.1.2.2.2.2 g.toNat (by omega) kg
      have hpg : zPr a b tg g.toNat := ⟨g1, by omega, g2, g3, kg⟩
      obtain ⟨y1, y2, y3, y4⟩ := zszb h s hpg (by omega) al1
      have hh2 := ih m h1 tg g.toNat hpg k.toNat (by omega) al1
      have hg : a.1 26 t 10 = 1 := by
        rw [(h.2.1 t p hp).1.1.1, ← s.1 51 p (by omega), show p = p'.toNat by omega]; exact h6
      have hi2 : (i : Int) ≤ a.1 26 t 9 := by
        rw [(h.2.1 t p hp).1.1.2, ← s.1 52 p (by omega), show p = p'.toNat by omega, e2]; exact h5
      have t0 := zst_tm h s hp hg (i := i) (by omega) hi2
      have tg2 := zst_tm h s hpg y3 (i := k.toNat) y1 y2
      rw [e1, e2] at t0
      rw [show ((g.toNat : Nat) : Int) = g by omega, show ((k.toNat : Nat) : Int) = k by omega] at tg2
      have e26 : ∀ t j, a1.1 26 t j = a.1 26 t j := fun t j => (hA.1 26 t j (Or.inl rfl)).1
      have e32 : ∀ t j, a1.1 32 t j = a.1 32 t j := fun t j => (hA.1 32 t j (Or.inr (by omega))).1
      have e33 : ∀ t j, a1.2.1 33 t j = a.2.1 33 t j := fun t j => (hA.1 33 t j (Or.inr (by omega))).2
      have tf : t = 4 * f + (t - 4 * f) := by omega
      have tgf : tg = 4 * f + (tg - 4 * f) := by omega
      have hz := hcl ((t - 4 * f : Nat) : Int) (i : Int) (by omega) (by omega) (by omega) (by rw [Int.toNat_natCast, Int.toNat_natCast, e26, ← tf]; exact hi2)
      unfold zHz zHox zHl at hz
      rw [Int.toNat_natCast, Int.toNat_natCast, Int.toNat_natCast, ← tf] at hz
      rcases hz with c | c
      · exact c
      · refine absurd ⟨k.toNat, by omega, ?_, ?_, ?_, ?_⟩ (c (tg - 4 * f) (by omega) (fun z9 => ?_))
        · have z8 : tg = t := by omega
          have := zSo_u h.1.1 (p := g.toNat) (p' := p) (by omega) p8 (by omega) (by rw [← hpg.2.2.2.1, ← hp.2.2.2.1, z8]) kg
          omega
        · rw [← tgf, e26]; omega
        · rw [← tgf]; exact hh2
        · rw [← tgf, e32, e32, ← y4, al2]; exact t0.1.symm
        · rw [← tgf, e33, e33, tg2.2, t0.2]; exact al3
    · rw [if_neg (by omega)] at t57
      rw [t57] at hh
      exact ih m h1 t p hp i hi hh
