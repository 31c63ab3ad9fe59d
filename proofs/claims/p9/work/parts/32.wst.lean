/-! Each step over named memory is one of the small machine. -/
def wOkS (K : wK) (M : xM) (xi : xI) (pc : Nat) (L : wL) (st : List wv) (n : Nat × Nat) (S : xS) (q : wF) : Prop := ∃ S', xst K.2.1 K.1.1 K.1.2.1 K.1.2.2.1 (xmx M) xi pc (wcl K L) (st.map (wcv K)) S = some (q.1, wcl K q.2.1, q.2.2.1.map (wcv K), S') ∧ wV K n q.2.2.2 S'
section WST
variable {K : wK} {M : xM} {pc : Nat} {L : wL} {st : List wv} {m : wm} {o : Option Prop} {q : wF} {n : Nat × Nat} {S : xS}
theorem wldI_ok {i pc' : Nat} (h : wldI L i pc' st m = some (o, q)) (hV : wV K n m S) : ∃ S', (xldI (wcl K L) i).map (fun v => ((pc', wcl K L, v :: st.map (wcv K), S) : xF)) = some (q.1, wcl K q.2.1, q.2.2.1.map (wcv K), S') ∧ wV K n q.2.2.2 S' := by
  unfold wldI at h
  split at h
  · rename_i X hX
    cases h
    refine ⟨S, ?_, hV⟩
    unfold xldI
    rw [wfind_cl, hX]
    rfl
  · cases h
theorem wldL_ok {i pc' : Nat} (h : wldL L i pc' st m = some (o, q)) (hV : wV K n m S) : ∃ S', (xldL (wcl K L) i).map (fun v => ((pc', wcl K L, v :: st.map (wcv K), S) : xF)) = some (q.1, wcl K q.2.1, q.2.2.1.map (wcv K), S') ∧ wV K n q.2.2.2 S' := by
  unfold wldL at h
  split at h
  · rename_i X hX
    cases h
    refine ⟨S, ?_, hV⟩
    unfold xldL
    rw [wfind_cl, hX]
    rfl
  · cases h
theorem wldA_ok {i pc' : Nat} (h : wldA L i pc' st m = some (o, q)) (hV : wV K n m S) : ∃ S', (xldA (wcl K L) i).map (fun v => ((pc', wcl K L, v :: st.map (wcv K), S) : xF)) = some (q.1, wcl K q.2.1, q.2.2.1.map (wcv K), S') ∧ wV K n q.2.2.2 S' := by
  unfold wldA at h
  split at h
  · rename_i X hX
    cases h
    refine ⟨S, ?_, hV⟩
    unfold xldA
    rw [wfind_cl, hX]
    rcases X with X | X
    · cases X <;> rfl
    · rfl
  · cases h
theorem wstI_ok {nL i pc' : Nat} (h : wstI L nL i pc' st m = some (o, q)) (hV : wV K n m S) : ∃ S', (xstI (wcl K L) nL i (st.map (wcv K))).map (fun r => ((pc', r.1, r.2, S) : xF)) = some (q.1, wcl K q.2.1, q.2.2.1.map (wcv K), S') ∧ wV K n q.2.2.2 S' := by
  unfold wstI at h
  split at h
  · rename_i X r
    split at h
    · rename_i hi
      cases h
      refine ⟨S, ?_, hV⟩
      dsimp only
      rw [wcl_sto1]
      show (if i < nL then some (xsto1 (wcl K L) i (.int (wi X)), r.map (wcv K)) else none).map _ = _
      rw [if_pos hi]
      rfl
    · cases h
  · cases h
theorem wstL_ok {nL i pc' : Nat} (h : wstL L nL i pc' st m = some (o, q)) (hV : wV K n m S) : ∃ S', (xstL (wcl K L) nL i (st.map (wcv K))).map (fun r => ((pc', r.1, r.2, S) : xF)) = some (q.1, wcl K q.2.1, q.2.2.1.map (wcv K), S') ∧ wV K n q.2.2.2 S' := by
  unfold wstL at h
  split at h
  · rename_i X r
    split at h
    · rename_i hi
      cases h
      refine ⟨S, ?_, hV⟩
      dsimp only
      rw [wcl_sto2]
      show (if i + 1 < nL then some (xsto2 (wcl K L) i (.long X), r.map (wcv K)) else none).map _ = _
      rw [if_pos hi]
      rfl
    · cases h
  · cases h
theorem wstA_ok {nL i pc' : Nat} (h : wstA L nL i pc' st m = some (o, q)) (hV : wV K n m S) : ∃ S', (xstA (wcl K L) nL i (st.map (wcv K))).map (fun r => ((pc', r.1, r.2, S) : xF)) = some (q.1, wcl K q.2.1, q.2.2.1.map (wcv K), S') ∧ wV K n q.2.2.2 S' := by
  unfold wstA at h
  split at h
  · rename_i X r
    split at h
    · rename_i hi
      cases h
      refine ⟨S, ?_, hV⟩
      dsimp only
      rw [wcl_sto1]
      cases X with
      | none =>
        show (if i < nL then some (xsto1 (wcl K L) i .null, r.map (wcv K)) else none).map _ = _
        rw [if_pos hi]
        rfl
      | some z =>
        show (if i < nL then some (xsto1 (wcl K L) i (.ref (K.2.2.1 z.1 z.2)), r.map (wcv K)) else none).map _ = _
        rw [if_pos hi]
        rfl
    · cases h
  · cases h
theorem wii_ok {f : Int → Int → Int} {g : Int32 → Int32 → Option Int32} {pc' : Nat} (hg : ∀ X Y, g (wi X) (wi Y) = some (wi (f X Y))) (h : wii st f pc' L m = some (o, q)) (hV : wV K n m S) : ∃ S', (xii (st.map (wcv K)) g).map (fun t => ((pc', wcl K L, t, S) : xF)) = some (q.1, wcl K q.2.1, q.2.2.1.map (wcv K), S') ∧ wV K n q.2.2.2 S' := by
  unfold wii at h
  split at h
  · rename_i Y X r
    cases h
    refine ⟨S, ?_, hV⟩
    show ((g (wi X) (wi Y)).map fun z => Value.int z :: r.map (wcv K)).map _ = _
    rw [hg]
    rfl
  · cases h
theorem wdv_ok {f : Int → Int → Int} {g : Int32 → Int32 → Option Int32} {pc' : Nat} (hg : ∀ X Y : Int, -2147483648 ≤ X → X ≤ 2147483647 → 0 < Y → Y ≤ 2147483647 → g (wi X) (wi Y) = some (wi (f X Y))) (h : wdv st f pc' L m = some (o, q)) (ho : ∀ p, o = some p → p) (hV : wV K n m S) : ∃ S', (xii (st.map (wcv K)) g).map (fun t => ((pc', wcl K L, t, S) : xF)) = some (q.1, wcl K q.2.1, q.2.2.1.map (wcv K), S') ∧ wV K n q.2.2.2 S' := by
  unfold wdv at h
  split at h
  · rename_i Y X r
    cases h
    obtain ⟨h1, h2, h3, h4⟩ := ho _ rfl
    refine ⟨S, ?_, hV⟩
    show ((g (wi X) (wi Y)).map fun z => Value.int z :: r.map (wcv K)).map _ = _
    rw [hg X Y h1 h2 h3 h4]
    rfl
  · cases h
theorem wll_ok {f : Int64 → Int64 → wv} {g : Int64 → Int64 → Value} {pc' : Nat} (hg : ∀ x y, g x y = wcv K (f x y)) (h : wll st f pc' L m = some (o, q)) (hV : wV K n m S) : ∃ S', (xll (st.map (wcv K)) g).map (fun t => ((pc', wcl K L, t, S) : xF)) = some (q.1, wcl K q.2.1, q.2.2.1.map (wcv K), S') ∧ wV K n q.2.2.2 S' := by
  unfold wll at h
  split at h
  · rename_i y x r
    cases h
    refine ⟨S, ?_, hV⟩
    show (some (g x y :: r.map (wcv K))).map _ = _
    rw [hg]
    rfl
  · cases h
theorem wli_ok {f : Int64 → Int → wv} {g : Int64 → Int32 → Value} {pc' : Nat} (hg : ∀ x Y, g x (wi Y) = wcv K (f x Y)) (h : wli st f pc' L m = some (o, q)) (hV : wV K n m S) : ∃ S', (xli (st.map (wcv K)) g).map (fun t => ((pc', wcl K L, t, S) : xF)) = some (q.1, wcl K q.2.1, q.2.2.1.map (wcv K), S') ∧ wV K n q.2.2.2 S' := by
  unfold wli at h
  split at h
  · rename_i Y x r
    cases h
    refine ⟨S, ?_, hV⟩
    show (some (g x (wi Y) :: r.map (wcv K))).map _ = _
    rw [hg]
    rfl
  · cases h
theorem wald_inv {tg pc' : Nat} {g : Nat → Nat → Nat → wv} (h : wald K tg g st pc' L m = some (o, q)) : ∃ X k i r c len C, st = .inl X :: .inr (.inr (.inl (some (k, i)))) :: r ∧ K.2.2.2 k = some (c, .inr (tg, len, C)) ∧ o = some (i < c ∧ 0 ≤ X ∧ X < len i) ∧ q = (pc', L, g k i X.toNat :: r, m) := by
  unfold wald at h
  split at h
  · rename_i X k i r
    split at h
    · rename_i c t len C hk
      split at h
      · rename_i ht
        subst ht
        cases h
        exact ⟨X, k, i, r, c, len, C, rfl, hk, rfl, rfl⟩
      · cases h
    · cases h
  · cases h
theorem wtd {X Y : Int} (h1 : -2147483648 ≤ X) (h2 : X ≤ 2147483647) (h3 : 0 < Y) (h4 : Y ≤ 2147483647) : wi X / wi Y = wi (X.tdiv Y) := by
  have e1 := wi_toInt h1 h2
  have e2 := wi_toInt (X := Y) (by omega) h4
  have hb : -2147483648 ≤ X.tdiv Y ∧ X.tdiv Y ≤ 2147483647 := by
    have h5 := Int.natAbs_tdiv_le_natAbs X Y
    rcases Int.le_total 0 X with h6 | h6
    · have := Int.tdiv_nonneg h6 (Int.le_of_lt h3)
      omega
    · have h7 := Int.tdiv_nonneg (a := -X) (by omega) (Int.le_of_lt h3)
      rw [Int.neg_tdiv] at h7
      omega
  apply Int32.toInt.inj
  rw [Int32.toInt_div, e1, e2, wi_toInt hb.1 hb.2]
  rw [Int.bmod_eq_of_le] <;> omega

theorem wcell_len {t : Nat} {len : Nat → Nat} {C : String × Nat × (Nat → Nat → Nat)} {k i : Nat} : ∃ ty x, wcell K m k i (.inr (t, len, C)) = .inl (ty, len i, x) := by
  unfold wcell
  dsimp only
  split <;> exact ⟨_, _, rfl⟩
theorem wst_ok {xi : xI} (h : wst K M xi pc L st m = some (o, q)) (ho : ∀ p, o = some p → p) (hV : wV K n m S) : wOkS K M xi pc L st n S q := by
  obtain ⟨ins, len, qa, qb, qz, qj⟩ := xi
  unfold wOkS
  cases ins with
  | aconst_null =>
    cases h
    exact ⟨S, rfl, hV⟩
  | aload i =>
    exact wldA_ok h hV
  | aload_n i =>
    exact wldA_ok h hV
  | iload i =>
    exact wldI_ok h hV
  | iload_n i =>
    exact wldI_ok h hV
  | lload i =>
    exact wldL_ok h hV
  | lload_n i =>
    exact wldL_ok h hV
  | astore i =>
    exact wstA_ok h hV
  | astore_n i =>
    exact wstA_ok h hV
  | istore i =>
    exact wstI_ok h hV
  | istore_n i =>
    exact wstI_ok h hV
  | lstore i =>
    exact wstL_ok h hV
  | lstore_n i =>
    exact wstL_ok h hV
  | iinc i z =>
    unfold wst at h
    dsimp only at h
    split at h
    · rename_i X hX
      split at h
      · rename_i hi
        cases h
        refine ⟨S, ?_, hV⟩
        unfold xst
        dsimp only
        rw [wfind_cl, hX, wcl_sto1]
        show (if i < xmx M then some (pc + 3, xsto1 (wcl K L) i (.int (wi X + wi z)), st.map (wcv K), S) else none) = _
        rw [if_pos hi, wi_add]
        try rfl
      · cases h
    · cases h
  | iconst z =>
    cases h
    exact ⟨S, rfl, hV⟩
  | bipush z =>
    unfold wst at h
    dsimp only at h
    split at h
    · rename_i hz
      cases h
      refine ⟨S, ?_, hV⟩
      have e : (Int8.ofInt z).toInt32 = wi z := by
        apply Int32.toInt.inj
        rw [Int8.toInt_toInt32, Int8.toInt_ofInt_of_le (by omega) (by omega), wi_toInt (by omega) (by omega)]
      show some (pc + 2, wcl K L, Value.int (Int8.ofInt z).toInt32 :: st.map (wcv K), S) = _
      rw [e]
      try rfl
    · cases h
  | sipush z =>
    unfold wst at h
    dsimp only at h
    split at h
    · rename_i hz
      cases h
      refine ⟨S, ?_, hV⟩
      have e : (Int16.ofInt z).toInt32 = wi z := by
        apply Int32.toInt.inj
        rw [Int16.toInt_toInt32, Int16.toInt_ofInt_of_le (by omega) (by omega), wi_toInt (by omega) (by omega)]
      show some (pc + 3, wcl K L, Value.int (Int16.ofInt z).toInt32 :: st.map (wcv K), S) = _
      rw [e]
      try rfl
    · cases h
  | lconst z =>
    cases h
    exact ⟨S, rfl, hV⟩
  | ldc z =>
    cases h
    exact ⟨S, rfl, hV⟩
  | ldc_w z =>
    cases h
    exact ⟨S, rfl, hV⟩
  | ldc2_w z =>
    cases h
    exact ⟨S, rfl, hV⟩
  | iadd =>
    exact wii_ok (g := fun x y => some (x + y)) (fun X Y => congrArg some (wi_add X Y)) h hV
  | isub =>
    exact wii_ok (g := fun x y => some (x - y)) (fun X Y => congrArg some (wi_sub X Y)) h hV
  | imul =>
    exact wii_ok (g := fun x y => some (x * y)) (fun X Y => congrArg some (wi_mul X Y)) h hV
  | iand =>
    exact wii_ok (g := fun x y => some (x &&& y)) (fun X Y => by unfold wand; rw [wi_of]) h hV
  | ior =>
    exact wii_ok (g := fun x y => some (x ||| y)) (fun X Y => by unfold wor; rw [wi_of]) h hV
  | ixor =>
    exact wii_ok (g := fun x y => some (x ^^^ y)) (fun X Y => by unfold wxor; rw [wi_of]) h hV
  | ishl =>
    exact wii_ok (g := fun x y => some (x <<< (y &&& 31))) (fun X Y => by unfold wshl; rw [wi_of]) h hV
  | ishr =>
    exact wii_ok (g := fun x y => some (x >>> (y &&& 31))) (fun X Y => by unfold wshr; rw [wi_of]) h hV
  | iushr =>
    exact wii_ok (g := fun x y => some ((x.toUInt32 >>> (y.toUInt32 &&& Int32.toUInt32 31)).toInt32)) (fun X Y => by unfold wushr; rw [wi_of]) h hV
  | idiv =>
    exact wdv_ok (g := fun x y => if y = 0 then none else some (x / y)) (fun X Y h1 h2 h3 h4 => by
      rw [if_neg (fun z => by have e := congrArg Int32.toInt z; rw [wi_toInt (by omega) h4] at e; have e : Y = 0 := e; omega), wtd h1 h2 h3 h4]) h ho hV
  | irem =>
    exact wdv_ok (g := fun x y => if y = 0 then none else some (x - x / y * y)) (fun X Y h1 h2 h3 h4 => by
      rw [if_neg (fun z => by have e := congrArg Int32.toInt z; rw [wi_toInt (by omega) h4] at e; have e : Y = 0 := e; omega), wtd h1 h2 h3 h4, wi_mul, wi_sub]
      congr 2
      have := Int.tmod_def X Y
      rw [this, Int.mul_comm]) h ho hV
  | ineg =>
    unfold wst at h
    dsimp only at h
    split at h
    · rename_i X r
      cases h
      refine ⟨S, ?_, hV⟩
      show some (pc + 1, wcl K L, Value.int (- wi X) :: r.map (wcv K), S) = _
      rw [wi_neg]
      try rfl
    · cases h
  | i2l =>
    unfold wst at h
    dsimp only at h
    split at h
    · rename_i X r
      cases h
      exact ⟨S, rfl, hV⟩
    · cases h
  | l2i =>
    unfold wst at h
    dsimp only at h
    split at h
    · rename_i x r
      cases h
      refine ⟨S, ?_, hV⟩
      show some (pc + 1, wcl K L, Value.int x.toInt32 :: r.map (wcv K), S) = some (pc + 1, wcl K L, Value.int (wi (wl2i x)) :: r.map (wcv K), S)
      unfold wl2i
      rw [wi_of]
    · cases h
  | land =>
    exact wll_ok (g := fun x y => .long (x &&& y)) (fun x y => rfl) h hV
  | lor =>
    exact wll_ok (g := fun x y => .long (x ||| y)) (fun x y => rfl) h hV
  | lxor =>
    exact wll_ok (g := fun x y => .long (x ^^^ y)) (fun x y => rfl) h hV
  | lmul =>
    exact wll_ok (g := fun x y => .long (x * y)) (fun x y => rfl) h hV
  | lcmp =>
    exact wll_ok (g := fun x y => .int (lg_cmp x y)) (fun x y => by show Value.int (lg_cmp x y) = Value.int (wi (wlcmp x y)); unfold wlcmp; rw [wi_of]) h hV
  | lshl =>
    exact wli_ok (g := fun x y => .long (x <<< (y.toInt64 &&& 63))) (fun x Y => rfl) h hV
  | lshr =>
    exact wli_ok (g := fun x y => .long (x >>> (y.toInt64 &&& 63))) (fun x Y => rfl) h hV
  | lushr =>
    exact wli_ok (g := fun x y => .long (x.toUInt64 >>> (y.toInt64.toUInt64 &&& Int64.toUInt64 63)).toInt64) (fun x Y => rfl) h hV
  | dup =>
    unfold wst at h
    dsimp only at h
    split at h
    · rename_i v r
      split at h
      · rename_i hc
        cases h
        refine ⟨S, ?_, hV⟩
        show (if (wcv K v).category = 1 then some (pc + 1, wcl K L, wcv K v :: wcv K v :: r.map (wcv K), S) else none) = _
        rw [if_pos (by rw [wcv_cat]; exact hc)]
        try rfl
      · cases h
    · cases h
  | dup2 =>
    unfold wst at h
    dsimp only at h
    split at h
    · rename_i v v2 r
      split at h
      · rename_i hc
        cases h
        refine ⟨S, ?_, hV⟩
        show (if (wcv K v).category = 1 ∧ (wcv K v2).category = 1 then some (pc + 1, wcl K L, wcv K v :: wcv K v2 :: wcv K v :: wcv K v2 :: r.map (wcv K), S) else none) = _
        rw [if_pos (by rw [wcv_cat, wcv_cat]; exact hc)]
        try rfl
      · cases h
    · cases h
  | pop =>
    unfold wst at h
    dsimp only at h
    split at h
    · rename_i v r
      split at h
      · rename_i hc
        cases h
        refine ⟨S, ?_, hV⟩
        show (if (wcv K v).category = 1 then some (pc + 1, wcl K L, r.map (wcv K), S) else none) = _
        rw [if_pos (by rw [wcv_cat]; exact hc)]
        try rfl
      · cases h
    · cases h
  | goto off =>
    unfold wst at h
    dsimp only at h
    split at h
    · rename_i t ht
      cases h
      refine ⟨S, ?_, hV⟩
      show (xtg pc off).map (fun t => ((t, wcl K L, st.map (wcv K), S) : xF)) = _
      rw [ht]
      try rfl
    · cases h
  | baload =>
    have h : wald K 1 (fun k i j => .inl (m.1 k i j)) st (pc + 1) L m = some (o, q) := h
    obtain ⟨X, k, i, r, c, len, C, rfl, hk, rfl, rfl⟩ := wald_inv h
    obtain ⟨h1, h2, h3⟩ := ho _ rfl
    obtain ⟨e1, e2⟩ := win h2 h3 (hV.1.2 k c _ len C.1 C.2.1 C.2.2 hk i)
    have ha : xat S (K.2.2.1 k i) = some (.inl (.boolean, len i, .inl (fun j => wi (m.1 k i j)))) := wV_at hV hk h1
    refine ⟨S, ?_, hV⟩
    show (xzald S (.int (wi X) :: .ref (K.2.2.1 k i) :: r.map (wcv K))).map _ = _
    unfold xzald
    dsimp only
    rw [ha]
    dsimp only
    rw [if_pos e1, e2]
    try rfl
  | laload =>
    have h : wald K 2 (fun k i j => .inr (.inl (m.2.1 k i j))) st (pc + 1) L m = some (o, q) := h
    obtain ⟨X, k, i, r, c, len, C, rfl, hk, rfl, rfl⟩ := wald_inv h
    obtain ⟨h1, h2, h3⟩ := ho _ rfl
    obtain ⟨e1, e2⟩ := win h2 h3 (hV.1.2 k c _ len C.1 C.2.1 C.2.2 hk i)
    have ha : xat S (K.2.2.1 k i) = some (.inl (.long, len i, .inr (.inl (m.2.1 k i)))) := wV_at hV hk h1
    refine ⟨S, ?_, hV⟩
    show (xlald S (.int (wi X) :: .ref (K.2.2.1 k i) :: r.map (wcv K))).map _ = _
    unfold xlald
    dsimp only
    rw [ha]
    dsimp only
    rw [if_pos e1, e2]
    try rfl
  | iaload =>
    unfold wst wiald at h
    dsimp only at h
    split at h
    · rename_i X r9 r
      cases h
      obtain ⟨h1, h2, h3⟩ := ho _ rfl
      refine ⟨S, ?_, hV⟩
      show (xiald K.2.1 S (.int (wi X) :: .retAddr r9 :: r.map (wcv K))).map _ = _
      have e : (wi X).toInt = X := wi_toInt (by omega) h3
      have e2 : (wi X).toNatClampNeg = X.toNat := by unfold Int32.toNatClampNeg; rw [e]
      have e3 : xin (wi X) (K.2.1.1 - 1) = true := by
        unfold xin
        rw [e2]
        have h5 : ¬ wi X < 0 := by rw [Int32.lt_iff_toInt_lt, e]; show ¬ X < 0; omega
        simp [h5]
        omega
      unfold xiald
      dsimp only
      rw [if_pos e3, e2]
      show some (pc + 1, wcl K L, Value.int (K.2.1.2 X.toNat) :: r.map (wcv K), S) = some (pc + 1, wcl K L, Value.int (wi (K.2.1.2 X.toNat).toInt) :: r.map (wcv K), S)
      rw [wi_of]
    · have h0 := h
      obtain ⟨X, k, i, r, c, len, C, rfl, hk, rfl, rfl⟩ := wald_inv h
      obtain ⟨h1, h2, h3⟩ := ho _ rfl
      obtain ⟨e1, e2⟩ := win h2 h3 (hV.1.2 k c _ len C.1 C.2.1 C.2.2 hk i)
      have ha : xat S (K.2.2.1 k i) = some (.inl (.int, len i, .inl (fun j => wi (m.1 k i j)))) := wV_at hV hk h1
      refine ⟨S, ?_, hV⟩
      show (xiald K.2.1 S (.int (wi X) :: .ref (K.2.2.1 k i) :: r.map (wcv K))).map _ = _
      unfold xiald
      dsimp only
      rw [ha]
      dsimp only
      rw [if_pos e1, e2]
      try rfl
  | aaload =>
    unfold wst waald at h
    dsimp only at h
    split at h
    · rename_i X k i r
      split at h
      · rename_i c len C k' f9 hk
        cases h
        obtain ⟨h1, h2, h3⟩ := ho _ rfl
        obtain ⟨e1, e2⟩ := win h2 h3 (hV.1.2 k c _ len C k' f9 hk i)
        have ha : xat S (K.2.2.1 k i) = some (.inl (.object C, len i, .inr (.inr (.inr (.inr (fun j => if j < len i then some (K.2.2.1 k' (f9 i j)) else none)))))) := wV_at hV hk h1
        refine ⟨S, ?_, hV⟩
        show (xaald S (.int (wi X) :: .ref (K.2.2.1 k i) :: r.map (wcv K))).map _ = _
        unfold xaald
        dsimp only
        rw [ha]
        dsimp only
        rw [if_pos e1, e2, if_pos (by omega)]
        try rfl
      · rename_i c len C k' f9 hk
        cases h
        obtain ⟨h1, h2, h3⟩ := ho _ rfl
        obtain ⟨e1, e2⟩ := win h2 h3 (hV.1.2 k c _ len C k' f9 hk i)
        have ha : xat S (K.2.2.1 k i) = some (.inl (.object C, len i, .inr (.inr (.inr (.inr (fun j => if j < len i then some (K.2.2.1 k' (m.2.2 k i j)) else none)))))) := wV_at hV hk h1
        refine ⟨S, ?_, hV⟩
        show (xaald S (.int (wi X) :: .ref (K.2.2.1 k i) :: r.map (wcv K))).map _ = _
        unfold xaald
        dsimp only
        rw [ha]
        dsimp only
        rw [if_pos e1, e2, if_pos (by omega)]
        try rfl
      · cases h
    · cases h
  | arraylength =>
    unfold wst wlen at h
    dsimp only at h
    split at h
    · rename_i r9 r
      split at h
      · cases h
      · rename_i h0
        cases h
        refine ⟨S, ?_, hV⟩
        show (xlen K.2.1 S (.retAddr r9 :: r.map (wcv K))).map _ = _
        unfold xlen
        dsimp only
        rw [if_neg h0]
        try rfl
    · rename_i k i r
      split at h
      · rename_i c t len C hk
        cases h
        have h1 := ho _ rfl
        have ha := wV_at hV hk h1
        refine ⟨S, ?_, hV⟩
        show (xlen K.2.1 S (.ref (K.2.2.1 k i) :: r.map (wcv K))).map _ = _
        unfold xlen
        dsimp only
        rw [ha]
        obtain ⟨ty, x9, e9⟩ := wcell_len (K := K) (m := m) (k := k) (i := i) (t := t) (len := len) (C := C)
        dsimp only
        rw [e9]
        rfl
      · cases h
    · cases h
  | iastore =>
    unfold wst wast at h
    dsimp only at h
    split at h
    · rename_i Y X k i r
      split at h
      · rename_i c len C hk
        cases h
        obtain ⟨h1, h2, h3⟩ := ho _ rfl
        obtain ⟨e1, e2⟩ := win h2 h3 (hV.1.2 k c _ len C.1 C.2.1 C.2.2 hk i)
        have ha : xat S (K.2.2.1 k i) = some (.inl (.int, len i, .inl (fun j => wi (m.1 k i j)))) := wV_at hV hk h1
        refine ⟨_, ?_, wV_put (m' := wuI m k i X.toNat Y) hV hk h1 rfl wuI_ne⟩
        show (xiast S (.int (wi Y) :: .int (wi X) :: .ref (K.2.2.1 k i) :: r.map (wcv K))).map _ = _
        unfold xiast
        dsimp only
        rw [ha]
        dsimp only
        rw [if_pos e1, e2]
        have e : upd (fun j => wi (m.1 k i j)) X.toNat (wi Y) = fun j => wi ((wuI m k i X.toNat Y).1 k i j) := by
          funext j
          unfold upd wuI
          dsimp only
          by_cases hj : j = X.toNat
          · simp [hj]
          · simp [hj]
        rw [e]
        try rfl
      · cases h
    · cases h
  | bastore =>
    unfold wst wzast at h
    dsimp only at h
    split at h
    · rename_i Y X k i r
      split at h
      · rename_i c len C hk
        cases h
        obtain ⟨h1, h2, h3, h4, h5⟩ := ho _ rfl
        obtain ⟨e1, e2⟩ := win h2 h3 (hV.1.2 k c _ len C.1 C.2.1 C.2.2 hk i)
        have ha : xat S (K.2.2.1 k i) = some (.inl (.boolean, len i, .inl (fun j => wi (m.1 k i j)))) := wV_at hV hk h1
        refine ⟨_, ?_, wV_put (m' := wuI m k i X.toNat Y) hV hk h1 rfl wuI_ne⟩
        show (xzast S (.int (wi Y) :: .int (wi X) :: .ref (K.2.2.1 k i) :: r.map (wcv K))).map _ = _
        unfold xzast
        dsimp only
        rw [ha]
        dsimp only
        rw [if_pos e1, e2]
        have e0 : vp_nar .boolean (wi Y) = wi Y := by
          rcases (show Y = 0 ∨ Y = 1 by omega) with rfl | rfl
          · decide +kernel
          · decide +kernel
        have e : upd (fun j => wi (m.1 k i j)) X.toNat (vp_nar .boolean (wi Y)) = fun j => wi ((wuI m k i X.toNat Y).1 k i j) := by
          rw [e0]
          funext j
          unfold upd wuI
          dsimp only
          by_cases hj : j = X.toNat
          · simp [hj]
          · simp [hj]
        rw [e]
        try rfl
      · cases h
    · cases h
  | lastore =>
    unfold wst wlast at h
    dsimp only at h
    split at h
    · rename_i Y X k i r
      split at h
      · rename_i c len C hk
        cases h
        obtain ⟨h1, h2, h3⟩ := ho _ rfl
        obtain ⟨e1, e2⟩ := win h2 h3 (hV.1.2 k c _ len C.1 C.2.1 C.2.2 hk i)
        have ha : xat S (K.2.2.1 k i) = some (.inl (.long, len i, .inr (.inl (m.2.1 k i)))) := wV_at hV hk h1
        refine ⟨_, ?_, wV_put (m' := wuL m k i X.toNat Y) hV hk h1 rfl wuL_ne⟩
        show (xlast S (.long Y :: .int (wi X) :: .ref (K.2.2.1 k i) :: r.map (wcv K))).map _ = _
        unfold xlast
        dsimp only
        rw [ha]
        dsimp only
        rw [if_pos e1, e2]
        have e : vp_updL (m.2.1 k i) X.toNat Y = (wuL m k i X.toNat Y).2.1 k i := by
          funext j
          unfold vp_updL wuL
          dsimp only
          by_cases hj : j = X.toNat
          · simp [hj]
          · simp [hj]
        rw [e]
        try rfl
      · cases h
    · cases h
  | aastore =>
    unfold wst waast at h
    dsimp only at h
    split at h
    · rename_i k2 i2 X k i r
      split at h
      · rename_i c len C k' f9 c2 ci fs hk hk2
        split at h
        · rename_i hkk
          obtain ⟨rfl, hcl⟩ := hkk
          cases h
          obtain ⟨h1, h2, h3, h4⟩ := ho _ rfl
          obtain ⟨e1, e2⟩ := win h2 h3 (hV.1.2 k c _ len C k' f9 hk i)
          have ha : xat S (K.2.2.1 k i) = some (.inl (.object C, len i, .inr (.inr (.inr (.inr (fun j => if j < len i then some (K.2.2.1 k' (m.2.2 k i j)) else none)))))) := wV_at hV hk h1
          have hb : xat S (K.2.2.1 k' i2) = some (.inr (some (ci, (wfs m k' i2 0 fs).map (wcv K)))) := wV_at hV hk2 h4
          refine ⟨_, ?_, wV_put (m' := wuR m k i X.toNat i2) hV hk h1 rfl wuR_ne⟩
          show (xaast K.1.1 S (.ref (K.2.2.1 k' i2) :: .int (wi X) :: .ref (K.2.2.1 k i) :: r.map (wcv K))).map _ = _
          unfold xaast
          dsimp only
          rw [ha, hb]
          dsimp only
          rw [if_pos (by rw [e1, hcl]; simp), e2]
          have e : va_up (fun j => if j < len i then some (K.2.2.1 k' (m.2.2 k i j)) else none) X.toNat (some (K.2.2.1 k' i2)) = fun j => if j < len i then some (K.2.2.1 k' ((wuR m k i X.toNat i2).2.2 k i j)) else none := by
            funext j
            unfold va_up wuR
            dsimp only
            by_cases hj : j = X.toNat
            · subst hj; simp; omega
            · simp [hj]
          rw [e]
          try rfl
        · cases h
      · cases h
    · cases h
  | getfield idx =>
    unfold wst wgetf at h
    dsimp only at h
    split at h
    · rename_i k i r
      split at h
      · rename_i c cj fs hk
        split at h
        · rename_i hc
          split at h
          · rename_i f hf
            cases h
            have h1 := ho _ rfl
            have ha : xat S (K.2.2.1 k i) = some (.inr (some (cj, (wfs m k i 0 fs).map (wcv K)))) := wV_at hV hk h1
            refine ⟨S, ?_, hV⟩
            show (xgetf S qa qb (.ref (K.2.2.1 k i) :: r.map (wcv K))).map _ = _
            unfold xgetf
            dsimp only
            rw [ha]
            dsimp only
            rw [if_pos hc, List.getElem?_map, wfs_get fs 0 qb f hf, Nat.zero_add]
            try rfl
          · cases h
        · cases h
      · cases h
    · cases h
  | putfield idx =>
    unfold wst wputf at h
    dsimp only at h
    split at h
    · rename_i v k i r
      split at h
      · rename_i c cj fs hk
        split at h
        · rename_i hc
          split at h
          · rename_i f9 Y hf
            split at h
            · rename_i hty
              cases h
              have h1 := ho _ rfl
              have ha : xat S (K.2.2.1 k i) = some (.inr (some (cj, (wfs m k i 0 fs).map (wcv K)))) := wV_at hV hk h1
              have e := wfs_set (K := K) (m := m) (m' := wuI m k i qb Y) (k := k) (i := i) (kf := qb) (fun j hj => ⟨by show (if k = k ∧ i = i ∧ j = qb then Y else m.1 k i j) = _; rw [if_neg (fun z => hj z.2.2)], rfl⟩) fs 0 qb hf (Nat.zero_add _).symm
              refine ⟨_, ?_, wV_put (m' := wuI m k i qb Y) hV hk h1 rfl wuI_ne⟩
              show (xputf S qa qb (K.1.2.1 qa qb) _).map _ = _
              unfold xputf
              dsimp only [List.map, wcv]
              rw [ha]
              dsimp only
              rw [if_pos ⟨hc, by rw [List.length_map, wfs_len]; exact (List.getElem?_eq_some_iff.mp hf).1, by rw [hty]; rfl⟩]
              rw [hc]
              show _ = some (pc + 3, wcl K L, r.map (wcv K), xput S (K.2.2.1 k i) (.inr (some (qa, (wfs (wuI m k i qb Y) k i 0 fs).map (wcv K)))))
              rw [← e]
              simp [wfv, wuI, wcv]
            · cases h
          · rename_i f9 Y hf
            split at h
            · rename_i hty
              cases h
              obtain ⟨h1, h5, h6⟩ := ho _ rfl
              have ha : xat S (K.2.2.1 k i) = some (.inr (some (cj, (wfs m k i 0 fs).map (wcv K)))) := wV_at hV hk h1
              have e := wfs_set (K := K) (m := m) (m' := wuI m k i qb Y) (k := k) (i := i) (kf := qb) (fun j hj => ⟨by show (if k = k ∧ i = i ∧ j = qb then Y else m.1 k i j) = _; rw [if_neg (fun z => hj z.2.2)], rfl⟩) fs 0 qb hf (Nat.zero_add _).symm
              refine ⟨_, ?_, wV_put (m' := wuI m k i qb Y) hV hk h1 rfl wuI_ne⟩
              show (xputf S qa qb (K.1.2.1 qa qb) _).map _ = _
              unfold xputf
              dsimp only [List.map, wcv]
              rw [ha]
              dsimp only
              rw [if_pos ⟨hc, by rw [List.length_map, wfs_len]; exact (List.getElem?_eq_some_iff.mp hf).1, by rw [hty]; rcases (show Y = 0 ∨ Y = 1 by omega) with rfl | rfl <;> decide +kernel⟩]
              rw [hc]
              show _ = some (pc + 3, wcl K L, r.map (wcv K), xput S (K.2.2.1 k i) (.inr (some (qa, (wfs (wuI m k i qb Y) k i 0 fs).map (wcv K)))))
              rw [← e]
              simp [wfv, wuI, wcv]
            · cases h
          · rename_i f9 Y hf
            split at h
            · rename_i hty
              cases h
              have h1 := ho _ rfl
              have ha : xat S (K.2.2.1 k i) = some (.inr (some (cj, (wfs m k i 0 fs).map (wcv K)))) := wV_at hV hk h1
              have e := wfs_set (K := K) (m := m) (m' := wuL m k i qb Y) (k := k) (i := i) (kf := qb) (fun j hj => ⟨rfl, by show (if k = k ∧ i = i ∧ j = qb then Y else m.2.1 k i j) = _; rw [if_neg (fun z => hj z.2.2)]⟩) fs 0 qb hf (Nat.zero_add _).symm
              refine ⟨_, ?_, wV_put (m' := wuL m k i qb Y) hV hk h1 rfl wuL_ne⟩
              show (xputf S qa qb (K.1.2.1 qa qb) _).map _ = _
              unfold xputf
              dsimp only [List.map, wcv]
              rw [ha]
              dsimp only
              rw [if_pos ⟨hc, by rw [List.length_map, wfs_len]; exact (List.getElem?_eq_some_iff.mp hf).1, by rw [hty]; rfl⟩]
              rw [hc]
              show _ = some (pc + 3, wcl K L, r.map (wcv K), xput S (K.2.2.1 k i) (.inr (some (qa, (wfs (wuL m k i qb Y) k i 0 fs).map (wcv K)))))
              rw [← e]
              simp [wfv, wuL, wcv]
            · cases h
          · cases h
        · cases h
      · cases h
    · cases h
  | invokestatic idx =>
    unfold wst at h
    dsimp only at h
    split at h
    · rename_i hnp
      unfold wsp at h
      split at h
      · cases h
      · rename_i hw
        have hw' : ¬ 16 < xw (st.map (wcv K)) := by rw [ww_xw]; exact hw
        show ∃ S', (if qa = xObj then none else (xsp qa (st.map (wcv K)) S).map fun q => ((pc + 3, wcl K L, q.1, q.2) : xF)) = _ ∧ _
        split at h
        · rename_i ha
          subst ha
          split at h
          · rename_i Y X r
            cases h
            obtain ⟨h1, h2, h3, h4⟩ := ho _ rfl
            refine ⟨S, ?_, hV⟩
            rw [if_neg (by decide)]
            unfold xsp
            rw [if_neg hw', if_neg (by decide), if_pos rfl]
            show (((some (if wi X < wi Y then wi Y else wi X)).map fun z => Value.int z :: r.map (wcv K)).map fun t => (t, S)).map _ = _
            have e : (if wi X < wi Y then wi Y else wi X) = wi (max X Y) := by
              have hi : wi X < wi Y ↔ X < Y := by rw [Int32.lt_iff_toInt_lt, wi_toInt h1 h2, wi_toInt h3 h4]
              by_cases hl : X < Y
              · rw [if_pos (hi.mpr hl), show max X Y = Y by omega]
              · rw [if_neg (fun z => hl (hi.mp z)), show max X Y = X by omega]
            rw [e]
            try rfl
          · cases h
        · split at h
          · rename_i ha0 ha
            subst ha
            split at h
            · rename_i Y X r
              cases h
              obtain ⟨h1, h2, h3, h4⟩ := ho _ rfl
              refine ⟨S, ?_, hV⟩
              rw [if_neg (by decide)]
              unfold xsp
              rw [if_neg hw', if_neg (by decide), if_neg (by decide), if_pos rfl]
              show (((some (if wi Y < wi X then wi Y else wi X)).map fun z => Value.int z :: r.map (wcv K)).map fun t => (t, S)).map _ = _
              have e : (if wi Y < wi X then wi Y else wi X) = wi (min X Y) := by
                have hi : wi Y < wi X ↔ Y < X := by rw [Int32.lt_iff_toInt_lt, wi_toInt h1 h2, wi_toInt h3 h4]
                by_cases hl : Y < X
                · rw [if_pos (hi.mpr hl), show min X Y = Y by omega]
                · rw [if_neg (fun z => hl (hi.mp z)), show min X Y = X by omega]
              rw [e]
              rfl
            · cases h
          · split at h
            · rename_i ha0 ha1 ha
              subst ha
              split at h
              · rename_i N D k i Z k0 i0 r
                split at h
                · rename_i c0 len0 C0 c len C hk0 hk
                  cases h
                  obtain ⟨h1, h2, h3, h4, h5, h6, h7⟩ := ho _ rfl
                  have b0 := hV.1.2 k0 c0 _ len0 C0.1 C0.2.1 C0.2.2 hk0 i0
                  have b1 := hV.1.2 k c _ len C.1 C.2.1 C.2.2 hk i
                  have eN : (wi N).toInt = N := wi_toInt (by omega) (by omega)
                  have eD : (wi D).toInt = D := wi_toInt (by omega) (by omega)
                  have eZ : (wi Z).toInt = Z := wi_toInt (by omega) (by omega)
                  have cN : (wi N).toNatClampNeg = N.toNat := by unfold Int32.toNatClampNeg; rw [eN]
                  have cD : (wi D).toNatClampNeg = D.toNat := by unfold Int32.toNatClampNeg; rw [eD]
                  have cZ : (wi Z).toNatClampNeg = Z.toNat := by unfold Int32.toNatClampNeg; rw [eZ]
                  have ha : xat S (K.2.2.1 k i) = some (.inl (.int, len i, .inl (fun j => wi (m.1 k i j)))) := wV_at hV hk h2
                  have hb : xat S (K.2.2.1 k0 i0) = some (.inl (.int, len0 i0, .inl (fun j => wi (m.1 k0 i0 j)))) := wV_at hV hk0 h1
                  refine ⟨_, ?_, wV_put (m' := wcp m k0 i0 Z.toNat k i D.toNat N.toNat) hV hk h2 rfl wcp_ne⟩
                  rw [if_neg (by decide)]
                  unfold xsp
                  rw [if_neg hw', if_neg (by decide), if_neg (by decide), if_neg (by decide), if_pos rfl]
                  show (xcpy S (.int (wi N) :: .int (wi D) :: .ref (K.2.2.1 k i) :: .int (wi Z) :: .ref (K.2.2.1 k0 i0) :: r.map (wcv K))).map _ = _
                  unfold xcpy
                  dsimp only
                  rw [hb, ha]
                  dsimp only
                  rw [if_neg (by rw [Int32.lt_iff_toInt_lt, Int32.lt_iff_toInt_lt, Int32.lt_iff_toInt_lt, eN, eD, eZ]; show ¬ (Z < 0 ∨ D < 0 ∨ N < 0); omega), cN, cD, cZ, if_pos (by omega)]
                  have e : va_cpy (fun j => wi (m.1 k0 i0 j)) (fun j => wi (m.1 k i j)) Z.toNat D.toNat N.toNat = fun j => wi ((wcp m k0 i0 Z.toNat k i D.toNat N.toNat).1 k i j) := by
                    funext j
                    unfold va_cpy wcp
                    dsimp only
                    by_cases hj : D.toNat ≤ j ∧ j < D.toNat + N.toNat
                    · rw [if_pos hj, if_pos ⟨rfl, rfl, hj.1, hj.2⟩]
                    · rw [if_neg hj, if_neg (fun z => hj ⟨z.2.2.1, z.2.2.2⟩)]
                  rw [e]
                  rfl
                · cases h
              · cases h
            · cases h
    · cases h
  | _ => cases h
end WST
