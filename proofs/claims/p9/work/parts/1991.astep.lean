section ASND4
variable {ρ : Nat → Int32}
set_option maxHeartbeats 4000000 in
theorem ast_sound {N : Option Nat} {sc : xSc} (hsc : ∀ n, N = some n → sc = (n + 1, ρ)) {cl : List vw_C} {fty : Nat → Nat → FieldType} {fdef : Nat → List Value} {nL : Nat} {xi : xI} {E : aE} {pc : Nat} {L : aL} {L' : xL} {as : List aV} {st : List Value} {A : aS} {S : xS} {frs : List (aE × aF)} (hE : aGe ρ E) (hL : aGl ρ L L') (hs : aGs ρ as st) (hS : aGS ρ A S)
    (h : ast N cl fty fdef nL xi E pc L as A = some frs) : ∃ q ∈ frs, ∃ fr, xst sc cl fty fdef nL xi pc L' st S = some fr ∧ aGF ρ q fr := by
  obtain ⟨ins, len, qa, qb, qz, qj⟩ := xi
  cases ins with
  | aconst_null => exact a1c hE hL (by exact ⟨rfl, hs⟩) hS h
  | aload i => exact a1v hE hL hs hS (aldA_ok hL) h
  | aload_n i => exact a1v hE hL hs hS (aldA_ok hL) h
  | iload i => exact a1v hE hL hs hS (aldI_ok hE hL) h
  | iload_n i => exact a1v hE hL hs hS (aldI_ok hE hL) h
  | lload i => exact a1v hE hL hs hS (aldL_ok hL) h
  | lload_n i => exact a1v hE hL hs hS (aldL_ok hL) h
  | astore i => exact a1l hE hS (astA_ok hL hs) h
  | astore_n i => exact a1l hE hS (astA_ok hL hs) h
  | istore i => exact a1l hE hS (astI_ok hL hs) h
  | istore_n i => exact a1l hE hS (astI_ok hL hs) h
  | lstore i => exact a1l hE hS (astL_ok hL hs) h
  | lstore_n i => exact a1l hE hS (astL_ok hL hs) h
  | iinc i n =>
    unfold ast at h
    unfold xst
    dsimp only at h ⊢
    split at h
    · rename_i x hx
      obtain ⟨v, hv, hg⟩ := aGl_find hL hx
      cases (show v = _ from hg)
      rw [hv]
      dsimp only
      split at h
      · rename_i hi
        rw [if_pos hi]
        exact a1c hE (aGl_sto1 hL (a := .inl (.int (x + Int32.ofInt n))) rfl) hs hS h
      · cases h
    · cases h
  | iconst n => exact a1c hE hL (by exact ⟨rfl, hs⟩) hS h
  | bipush n => exact a1c hE hL (by exact ⟨rfl, hs⟩) hS h
  | sipush n => exact a1c hE hL (by exact ⟨rfl, hs⟩) hS h
  | lconst n => exact a1c hE hL (by exact ⟨rfl, hs⟩) hS h
  | ldc n => exact a1c hE hL (by exact ⟨rfl, hs⟩) hS h
  | ldc_w n => exact a1c hE hL (by exact ⟨rfl, hs⟩) hS h
  | ldc2_w n => exact a1c hE hL (by exact ⟨rfl, hs⟩) hS h
  | iadd => exact a1t hE hL hS (aii_ok gAdd_ok hs) h
  | isub => exact a1t hE hL hS (aii_ok (f := fun x y => some (x - y)) gTop_ok hs) h
  | imul => exact a1t hE hL hS (aii_ok (f := fun x y => some (x * y)) gTop_ok hs) h
  | iand => exact a1t hE hL hS (aii_ok gAnd_ok hs) h
  | ior => exact a1t hE hL hS (aii_ok (f := fun x y => some (x ||| y)) gTop_ok hs) h
  | ixor => exact a1t hE hL hS (aii_ok (f := fun x y => some (x ^^^ y)) gTop_ok hs) h
  | ishl => exact a1t hE hL hS (aii_ok (f := fun x y => some (x <<< (y &&& 31))) gTop_ok hs) h
  | ishr => exact a1t hE hL hS (aii_ok (f := fun x y => some (x >>> (y &&& 31))) gTop_ok hs) h
  | iushr => exact a1t hE hL hS (aii_ok (f := fun x y => some (x.toUInt32 >>> (y.toUInt32 &&& Int32.toUInt32 31)).toInt32) gTop_ok hs) h
  | idiv => exact a1t hE hL hS (aii_ok (f := fun x y => if y = 0 then none else some (x / y)) (gDiv_ok (f := fun x y => x / y)) hs) h
  | irem => exact a1t hE hL hS (aii_ok (f := fun x y => if y = 0 then none else some (x - x / y * y)) (gDiv_ok (f := fun x y => x - x / y * y)) hs) h
  | ineg => exact a1t hE hL hS (ai1_ok (fun _ => aG_top _) hs) h
  | i2l => exact a1t hE hL hS (ai1_ok (fun _ => aG_topL _) hs) h
  | l2i => exact a1t hE hL hS (al1_ok (fun _ => aG_top _) hs) h
  | land => exact a1t hE hL hS (all2_ok (fun _ _ => aG_topL _) hs) h
  | lor => exact a1t hE hL hS (all2_ok (fun _ _ => aG_topL _) hs) h
  | lxor => exact a1t hE hL hS (all2_ok (fun _ _ => aG_topL _) hs) h
  | lmul => exact a1t hE hL hS (all2_ok (fun _ _ => aG_topL _) hs) h
  | lcmp => exact a1t hE hL hS (all2_ok (fun _ _ => aG_top _) hs) h
  | lshl => exact a1t hE hL hS (ali_ok (fun _ _ => aG_topL _) hs) h
  | lshr => exact a1t hE hL hS (ali_ok (fun _ _ => aG_topL _) hs) h
  | lushr => exact a1t hE hL hS (ali_ok (fun _ _ => aG_topL _) hs) h
  | dup =>
    unfold ast at h
    unfold xst
    dsimp only at h ⊢
    split at h
    · obtain ⟨v, r, rfl, h1, h2⟩ := aGs_cons hs
      split at h
      · rename_i hc
        dsimp only
        rw [if_pos (by rw [aG_cat h1]; exact hc)]
        exact a1c hE hL (by exact ⟨h1, h1, h2⟩) hS h
      · cases h
    · cases h
  | dup2 =>
    unfold ast at h
    unfold xst
    dsimp only at h ⊢
    split at h
    · obtain ⟨v, _, rfl, h1, hs⟩ := aGs_cons hs
      obtain ⟨w, r, rfl, h2, h3⟩ := aGs_cons hs
      split at h
      · rename_i hc
        dsimp only
        rw [if_pos (by rw [aG_cat h1, aG_cat h2]; exact hc)]
        exact a1c hE hL (by exact ⟨h1, h2, h1, h2, h3⟩) hS h
      · cases h
    · cases h
  | goto off =>
    have h : a1 E ((xtg pc off).map fun t => (t, L, as, A)) = some frs := h
    show ∃ q ∈ frs, ∃ fr, (xtg pc off).map (fun t => ((t, L', st, S) : xF)) = some fr ∧ aGF ρ q fr
    cases ht : xtg pc off with
    | none => rw [ht] at h; cases h
    | some t => rw [ht] at h; exact a1c hE hL hs hS h
  | ifCond c off =>
    unfold ast at h
    unfold xst
    dsimp only at h ⊢
    split at h
    · obtain ⟨v, r, rfl, h1, h2⟩ := aGs_cons hs
      obtain ⟨x, y, t, rfl, hy, ht, q, hq, hq2⟩ := aif_ok hE hL h2 hS h1 (w := .int 0) (by exact rfl) h
      cases hy
      exact ⟨q, hq, _, by unfold xif; dsimp only; rw [ht]; rfl, hq2⟩
    · cases h
  | if_icmp c off =>
    unfold ast at h
    unfold xst
    dsimp only at h ⊢
    split at h
    · obtain ⟨v, _, rfl, h1, hs⟩ := aGs_cons hs
      obtain ⟨w, r, rfl, h2, h3⟩ := aGs_cons hs
      obtain ⟨x, y, t, rfl, rfl, ht, q, hq, hq2⟩ := aif_ok hE hL h3 hS h2 h1 h
      exact ⟨q, hq, _, by unfold xicmp; dsimp only; rw [ht]; rfl, hq2⟩
    · cases h
  | ifnull off =>
    unfold ast at h
    unfold xst
    dsimp only at h ⊢
    split at h
    · rename_i v0 r0
      obtain ⟨v, r, rfl, h1, h2⟩ := aGs_cons hs
      cases (show v = _ from h1)
      cases v0 with
      | null =>
        cases ht : xtg pc off with
        | none => unfold xnul at h; dsimp only at h; rw [ht] at h; cases h
        | some t => unfold xnul at h ⊢; dsimp only at h ⊢; rw [ht] at h ⊢; exact a1c hE hL h2 hS h
      | ref a =>
        cases ht : xtg pc off with
        | none => unfold xnul at h; dsimp only at h; rw [ht] at h; cases h
        | some t => unfold xnul at h ⊢; dsimp only at h ⊢; rw [ht] at h ⊢; exact a1c hE hL h2 hS h
      | _ => cases h
    · cases h
  | ifnonnull off =>
    unfold ast at h
    unfold xst
    dsimp only at h ⊢
    split at h
    · rename_i v0 r0
      obtain ⟨v, r, rfl, h1, h2⟩ := aGs_cons hs
      cases (show v = _ from h1)
      cases v0 with
      | null =>
        cases ht : xtg pc off with
        | none => unfold xnul at h; dsimp only at h; rw [ht] at h; cases h
        | some t => unfold xnul at h ⊢; dsimp only at h ⊢; rw [ht] at h ⊢; exact a1c hE hL h2 hS h
      | ref a =>
        cases ht : xtg pc off with
        | none => unfold xnul at h; dsimp only at h; rw [ht] at h; cases h
        | some t => unfold xnul at h ⊢; dsimp only at h ⊢; rw [ht] at h ⊢; exact a1c hE hL h2 hS h
      | _ => cases h
    · cases h
  | tableswitch d lo hi offs =>
    obtain ⟨x, r, t, rfl, ht, q, hq, hq2⟩ := asw_ok (tg := fun x => (xtab d lo hi offs pc [.int x]).map fun q => q.1) hE hL hs hS (fun q t x h1 h2 h3 => by rw [atab_ok q t x h1 h2 h3]; rfl) h
    refine ⟨q, hq, (t, L', r, S), ?_, hq2⟩
    show (xtab d lo hi offs pc (.int x :: r)).map (fun q => ((q.1, L', q.2, S) : xF)) = _
    have e : ∀ r : List Value, xtab d lo hi offs pc (.int x :: r) = ((xtab d lo hi offs pc [.int x]).map fun q => q.1).map fun t => (t, r) := fun r => by
      unfold xtab
      dsimp only
      split
      · cases xtg pc d <;> rfl
      · split
        · rename_i off _; cases xtg pc off <;> rfl
        · rfl
    rw [e r, ht]
    rfl
  | lookupswitch d ps =>
    obtain ⟨x, r, t, rfl, ht, q, hq, hq2⟩ := asw_ok (tg := fun x => (xlook d ps pc [.int x]).map fun q => q.1) hE hL hs hS (fun q t x h1 h2 h3 => by rw [alook_ok q t x h1 h2 h3]; rfl) h
    refine ⟨q, hq, (t, L', r, S), ?_, hq2⟩
    show (xlook d ps pc (.int x :: r)).map (fun q => ((q.1, L', q.2, S) : xF)) = _
    have e : ∀ r : List Value, xlook d ps pc (.int x :: r) = ((xlook d ps pc [.int x]).map fun q => q.1).map fun t => (t, r) := fun r => by
      unfold xlook
      dsimp only
      split
      · cases xtg pc (Op.lookupswitch.offset ps.toList d x.toInt) <;> rfl
      · rfl
    rw [e r, ht]
    rfl
  | iaload => exact aiald_ok hsc hE hL hs hS h
  | baload => exact azald_ok hE hL hs hS h
  | laload => exact alald_ok hE hL hs hS h
  | aaload => exact aaald_ok hE hL hs hS h
  | arraylength => exact a1t hE hL hS (alen_ok hsc hS hs) h
  | iastore => exact a1s hE hL (aiast_ok hE hs hS) h
  | bastore => exact a1s hE hL (azast_ok hE hs hS) h
  | lastore => exact a1s hE hL (alast_ok hE hs hS) h
  | aastore => exact a1s hE hL (aaast_ok hs hS) h
  | getfield n => exact a1t hE hL hS (agetf_ok hE hs hS) h
  | putfield n => exact a1s hE hL (aputf_ok hs hS) h
  | newarray a => exact a1s hE hL (anewa_ok hs hS) h
  | anewarray n =>
    unfold ast at h
    unfold xst
    dsimp only at h ⊢
    split at h
    · rename_i q hq
      rw [hq]
      exact a1s hE hL (anewq_ok hs hS) h
    · cases h
  | new n =>
    unfold ast at h
    unfold xst
    dsimp only at h ⊢
    split at h
    · rename_i q hq
      rw [hq]
      split at h
      · cases h
      · cases ha : anew A (.inr (some (qa, (fdef qa).map .inl))) q.2.2 with
        | none => rw [ha] at h; cases h
        | some A' =>
          rw [ha] at h
          obtain ⟨S', hs', hS'⟩ := aGS_new (c := .inr (some (qa, fdef qa))) hS ha ⟨_, rfl, aGs_inl _⟩
          dsimp only
          rw [hs']
          exact a1c hE hL (by exact ⟨by rw [← hS.1]; rfl, hs⟩) hS' h
    · cases h
  | invokestatic n =>
    unfold ast at h
    unfold xst
    dsimp only at h ⊢
    split at h
    · cases h
    · rename_i hn
      rw [if_neg hn]
      exact a1s hE hL (asp_ok hs hS) h
  | invokespecial n =>
    unfold ast at h
    unfold xst
    dsimp only at h ⊢
    split at h
    · rename_i hn
      rw [if_pos hn]
      exact a1s hE hL (asp_ok hs hS) h
    · cases h
  | _ => cases h
end ASND4
