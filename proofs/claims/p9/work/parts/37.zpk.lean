/-! How many packets there are: as functions of the memory. -/
def zpkn (s : Int) : Int := if s ≤ 64 then 2 * max 1 ((min 64 s + 7) / 8) else 2 * max 1 ((min 64 s + 7) / 8) + 2 * max 1 ((min 64 (s - 64) + 7) / 8)
theorem zpkn_c (s : Int) : (s ≤ 64 → zpkn s = 2 * max 1 ((min 64 s + 7) / 8)) ∧ (64 < s → zpkn s = 2 * max 1 ((min 64 s + 7) / 8) + 2 * max 1 ((min 64 (s - 64) + 7) / 8)) := by
  unfold zpkn
  refine ⟨fun h => by rw [if_pos h], fun h => by rw [if_neg (by omega)]⟩
def zpb (s b : Int) : Int := 2 * max 1 ((min 64 (s - 64 * b) + 7) / 8)
def zTi (s b : Int) : Int := if b ≤ 0 then 0 else if b = 1 then zpb s 0 else zpb s 0 + zpb s 1
theorem zTi_0 (s : Int) : zTi s 0 = 0 := rfl
theorem zTi_s (s b : Int) : 0 ≤ b → b ≤ 1 → zTi s (b + 1) = zTi s b + zpb s b := by
  intro h h1
  rcases (show b = 0 ∨ b = 1 by omega) with rfl | rfl
  · show (if (1 : Int) ≤ 0 then 0 else if (1 : Int) = 1 then zpb s 0 else zpb s 0 + zpb s 1) = 0 + zpb s 0
    rw [if_neg (by decide), if_pos rfl, Int.zero_add]
  · show (if (2 : Int) ≤ 0 then 0 else if (2 : Int) = 1 then zpb s 0 else zpb s 0 + zpb s 1) = (if (1 : Int) ≤ 0 then 0 else if (1 : Int) = 1 then zpb s 0 else zpb s 0 + zpb s 1) + zpb s 1
    rw [if_neg (by decide), if_neg (by decide), if_neg (by decide), if_pos rfl]
theorem zTi_e (s b : Int) : (s ≤ 64 ∧ b = 1 ∨ 64 < s ∧ b = 2) → zTi s b = zpkn s := by
  intro h
  rcases h with ⟨h, rfl⟩ | ⟨h, rfl⟩
  · rw [(zpkn_c s).1 h]
    show (if (1 : Int) ≤ 0 then 0 else if (1 : Int) = 1 then zpb s 0 else zpb s 0 + zpb s 1) = _
    rw [if_neg (by decide), if_pos rfl]
    unfold zpb
    omega
  · rw [(zpkn_c s).2 h]
    show (if (2 : Int) ≤ 0 then 0 else if (2 : Int) = 1 then zpb s 0 else zpb s 0 + zpb s 1) = _
    rw [if_neg (by decide), if_neg (by decide)]
    unfold zpb
    omega
theorem zpkn_2 (s : Int) : 2 ≤ zpkn s := by
  have h := zpkn_c s
  omega
def zTq (g : Nat → Int) : Nat → Int
  | 0 => 0
  | k + 1 => zTq g k + zpkn (g k)
theorem zTq_s {g : Nat → Int} {z : Int} (hz : 0 ≤ z) : zTq g (z + 1).toNat = zTq g z.toNat + zpkn (g z.toNat) := by
  rw [show (z + 1).toNat = z.toNat + 1 by omega]
  rfl
theorem zTq_nn (g : Nat → Int) : ∀ n : Nat, 2 * (n : Int) ≤ zTq g n := by
  intro n
  induction n with
  | zero => exact Int.le_refl _
  | succ n ih =>
    have h := zpkn_2 (g n)
    show _ ≤ zTq g n + zpkn (g n)
    omega
theorem zTq_congr {g g' : Nat → Int} : ∀ {n : Nat}, (∀ i, i < n → g' i = g i) → zTq g' n = zTq g n := by
  intro n
  induction n with
  | zero => intro _; rfl
  | succ n ih =>
    intro h
    show zTq g' n + zpkn (g' n) = zTq g n + zpkn (g n)
    rw [ih (fun i hi => h i (Nat.lt_succ_of_lt hi)), h n (Nat.lt_succ_self n)]
theorem zTq_mono (g : Nat → Int) {a b : Nat} (h : a ≤ b) : zTq g a ≤ zTq g b := by
  induction b with
  | zero => rw [show a = 0 by omega]; exact Int.le_refl _
  | succ b ih =>
    rcases (show a ≤ b ∨ a = b + 1 by omega) with h1 | h1
    · have h2 := ih h1
      have h3 := zpkn_2 (g b)
      show _ ≤ zTq g b + zpkn (g b)
      omega
    · rw [h1]; exact Int.le_refl _
theorem zTi_le (s b : Int) : (b = 0 ∨ 64 < s ∧ b = 1) → zTi s b + zpb s b ≤ zpkn s := by
  intro h
  have h2 := zpkn_2 s
  have e1 := zTi_s s b
  rcases h with rfl | ⟨h, rfl⟩
  · by_cases h3 : s ≤ 64
    · have e2 := zTi_e s 1 (Or.inl ⟨h3, rfl⟩)
      have e3 := e1 (by decide) (by decide)
      rw [show (0 : Int) + 1 = 1 from rfl] at e3
      omega
    · have e2 := zTi_e s 2 (Or.inr ⟨by omega, rfl⟩)
      have e3 := e1 (by decide) (by decide)
      have e4 := zTi_s s 1 (by decide) (by decide)
      rw [show (0 : Int) + 1 = 1 from rfl] at e3
      rw [show (1 : Int) + 1 = 2 from rfl] at e4
      have e5 : 0 ≤ zpb s 1 := by unfold zpb; omega
      omega
  · have e2 := zTi_e s 2 (Or.inr ⟨h, rfl⟩)
    have e4 := e1 (by decide) (by decide)
    rw [show (1 : Int) + 1 = 2 from rfl] at e4
    omega
/-- the class's editions -/
def zge (m : wm) (t : Nat) : Nat → Int := fun i => m.1 1 (59 + 7 * t + i) 1
def zEP (m : wm) (t : Nat) : Int := zTq (zge m t) (m.1 10 t 2).toNat
def zFP (m : wm) (f : Nat) (a : Int) : Int := if 1 ≤ m.1 6 f 4 - a then zEP m (3 * f + ((m.1 6 f 4 - a) % 3).toNat) else 0
def zPF (m : wm) (f : Nat) (x : Int) : Int := if x = 1 then zFP m f 2 + zFP m f 1 else zFP m f 0
def zPO (m : wm) (x : Int) : Int := zPF m 0 x + zPF m 1 x
theorem zFP_c (m : wm) (f : Nat) (a : Int) : (1 ≤ m.1 6 f 4 - a → zFP m f a = zEP m (3 * f + ((m.1 6 f 4 - a) % 3).toNat)) ∧ (m.1 6 f 4 - a < 1 → zFP m f a = 0) := by
  unfold zFP
  refine ⟨fun h => by rw [if_pos h], fun h => by rw [if_neg (by omega)]⟩
theorem zEP_nn (m : wm) (t : Nat) : 0 ≤ zEP m t ∧ (1 ≤ m.1 10 t 2 → 2 ≤ zEP m t) := by
  have h := zTq_nn (zge m t) (m.1 10 t 2).toNat
  unfold zEP
  omega
theorem zFP_nn (m : wm) (f : Nat) (a : Int) : 0 ≤ zFP m f a := by
  have h := zFP_c m f a
  have h1 := (zEP_nn m (3 * f + ((m.1 6 f 4 - a) % 3).toNat)).1
  omega
theorem zPF_c (m : wm) (f : Nat) (x : Int) : (x = 1 → zPF m f x = zFP m f 2 + zFP m f 1) ∧ (x = 0 → zPF m f x = zFP m f 0) := by
  unfold zPF
  refine ⟨fun h => by rw [if_pos h], fun h => by rw [if_neg (by omega)]⟩
theorem zPO_e (m : wm) (x : Int) : zPO m x = zPF m 0 x + zPF m 1 x := rfl
/-- sums on the way -/
def zPH (m : wm) (x z : Int) : Int := if z ≤ 0 then 0 else if z = 1 then zPF m 0 x else zPO m x
def zPI (m : wm) (x : Int) (f : Nat) (w : Int) : Int := if x = 1 then (if 2 ≤ w then 0 else if w = 1 then zFP m f 2 else zFP m f 2 + zFP m f 1) else (if 0 ≤ w then 0 else zFP m f 0)
theorem zPH_s (m : wm) (x z : Int) : 0 ≤ z → z ≤ 1 → zPH m x (z + 1) = zPH m x z + zPF m z.toNat x := by
  intro h h1
  rcases (show z = 0 ∨ z = 1 by omega) with rfl | rfl
  · show (if (1 : Int) ≤ 0 then 0 else if (1 : Int) = 1 then zPF m 0 x else zPO m x) = 0 + zPF m 0 x
    rw [if_neg (by decide), if_pos rfl, Int.zero_add]
  · show (if (2 : Int) ≤ 0 then 0 else if (2 : Int) = 1 then zPF m 0 x else zPO m x) = (if (1 : Int) ≤ 0 then 0 else if (1 : Int) = 1 then zPF m 0 x else zPO m x) + zPF m 1 x
    rw [if_neg (by decide), if_neg (by decide), if_neg (by decide), if_pos rfl]
    rfl
theorem zPH_e (m : wm) (x z : Int) : (z = 0 → zPH m x z = 0) ∧ (z = 2 → zPH m x z = zPO m x) := by
  refine ⟨fun h => by rw [h]; rfl, fun h => ?_⟩
  rw [h]
  show (if (2 : Int) ≤ 0 then 0 else if (2 : Int) = 1 then zPF m 0 x else zPO m x) = _
  rw [if_neg (by decide), if_neg (by decide)]
theorem zPI_0 (m : wm) (x : Int) (f : Nat) (w : Int) : (x = 1 ∧ w = 2 ∨ x = 0 ∧ w = 0) → zPI m x f w = 0 := by
  intro h
  unfold zPI
  rcases h with ⟨rfl, rfl⟩ | ⟨rfl, rfl⟩
  · rw [if_pos rfl, if_pos (by decide)]
  · rw [if_neg (by decide), if_pos (by decide)]
theorem zPI_s (m : wm) (x : Int) (f : Nat) (w : Int) : (x = 1 ∧ 1 ≤ w ∧ w ≤ 2 ∨ x = 0 ∧ w = 0) → zPI m x f (w + (-1)) = zPI m x f w + zFP m f w := by
  intro h
  unfold zPI
  rcases (show x = 1 ∧ w = 2 ∨ x = 1 ∧ w = 1 ∨ x = 0 ∧ w = 0 by omega) with ⟨rfl, rfl⟩ | ⟨rfl, rfl⟩ | ⟨rfl, rfl⟩
  · rw [if_pos rfl, if_pos rfl, if_neg (by decide), if_pos (by decide), if_pos (by decide), Int.zero_add]
  · rw [if_pos rfl, if_pos rfl, if_neg (by decide), if_neg (by decide), if_neg (by decide), if_pos rfl]
  · rw [if_neg (by decide), if_neg (by decide), if_neg (by decide), if_pos (by decide), Int.zero_add]
theorem zPI_e (m : wm) (x : Int) (f : Nat) (w : Int) : (x = 1 ∧ w = 0 ∨ x = 0 ∧ w = -1) → zPI m x f w = zPF m f x := by
  intro h
  unfold zPI zPF
  rcases h with ⟨rfl, rfl⟩ | ⟨rfl, rfl⟩
  · rw [if_pos rfl, if_pos rfl, if_neg (by decide), if_neg (by decide)]
  · rw [if_neg (by decide), if_neg (by decide), if_neg (by decide)]
/-- with no version there is no packet -/
theorem zPO_0 {m : wm} {x : Int} (h0 : m.1 6 0 4 = 0) (h1 : m.1 6 1 4 = 0) (hx : x = 0 ∨ x = 1) : zPO m x = 0 := by
  have a0 := zFP_c m 0 0; have a1 := zFP_c m 0 1; have a2 := zFP_c m 0 2
  have b0 := zFP_c m 1 0; have b1 := zFP_c m 1 1; have b2 := zFP_c m 1 2
  have c0 := zPF_c m 0 x; have c1 := zPF_c m 1 x; have d := zPO_e m x
  omega
/-- a version that is there has packets -/
def zIC (m : wm) : Prop := ∀ f, f < 2 → 1 ≤ m.1 6 f 4 → 1 ≤ m.1 10 (3 * f + (m.1 6 f 4 % 3).toNat) 2
theorem zPO_1 {m : wm} (hI : zIC m) (h : 1 ≤ m.1 6 0 4 ∨ 1 ≤ m.1 6 1 4) : 1 ≤ zPO m 0 := by
  have a0 := zFP_c m 0 0
  have b0 := zFP_c m 1 0
  have a1 := zFP_nn m 0 0
  have b1 := zFP_nn m 1 0
  have c0 := (zPF_c m 0 0).2 rfl
  have c1 := (zPF_c m 1 0).2 rfl
  have d := zPO_e m 0
  rw [Int.sub_zero] at a0 b0
  rcases h with h | h
  · have e := (zEP_nn m (3 * 0 + (m.1 6 0 4 % 3).toNat)).2 (hI 0 (by decide) h)
    omega
  · have e := (zEP_nn m (3 * 1 + (m.1 6 1 4 % 3).toNat)).2 (hI 1 (by decide) h)
    omega
section ZPF
variable {e : Nat → Nat → Nat → Prop} {m m1 : wm} {c : Int}
theorem zEP_fr (hG : zB c m) (hf : zfr e m m1) {t : Nat} (ht : t < 6) (h2 : ∀ t, ¬ e 10 t 2) (h3 : ∀ i, 59 ≤ i → i < 101 → ¬ e 1 i 1) : zEP m1 t = zEP m t := by
  unfold zEP
  rw [(hf 10 t 2 (h2 t)).1]
  have b : 0 ≤ m.1 10 t 2 ∧ m.1 10 t 2 ≤ 7 := hG.1 10 _ rfl t 2
  exact zTq_congr fun i hi => (hf 1 (59 + 7 * t + i) 1 (h3 _ (by omega) (by omega))).1
theorem zFP_fr (hG : zB c m) (hf : zfr e m m1) (h1 : ∀ f, ¬ e 6 f 4) (h2 : ∀ t, ¬ e 10 t 2) (h3 : ∀ i, 59 ≤ i → i < 101 → ¬ e 1 i 1) {f : Nat} (hf2 : f < 2) (a : Int) : zFP m1 f a = zFP m f a := by
  unfold zFP
  rw [(hf 6 f 4 (h1 f)).1, zEP_fr hG hf (by omega) h2 h3]
theorem zPO_fr (hG : zB c m) (hf : zfr e m m1) (h1 : ∀ f, ¬ e 6 f 4) (h2 : ∀ t, ¬ e 10 t 2) (h3 : ∀ i, 59 ≤ i → i < 101 → ¬ e 1 i 1) (x : Int) : zPO m1 x = zPO m x := by
  unfold zPO zPF
  rw [zFP_fr hG hf h1 h2 h3 (by decide), zFP_fr hG hf h1 h2 h3 (by decide), zFP_fr hG hf h1 h2 h3 (by decide), zFP_fr hG hf h1 h2 h3 (by decide), zFP_fr hG hf h1 h2 h3 (by decide), zFP_fr hG hf h1 h2 h3 (by decide)]
theorem zIC_fr (h : zIC m) (hf : zfr e m m1) (h1 : ∀ f, ¬ e 6 f 4) (h2 : ∀ t, ¬ e 10 t 2) : zIC m1 := fun f hf2 h4 => by
  rw [(hf 6 f 4 (h1 f)).1] at h4 ⊢
  rw [(hf 10 _ 2 (h2 _)).1]
  exact h f hf2 h4
end ZPF
/-- the next place is one of those that are there -/
def zNP (m : wm) : Prop := m.1 5 0 0 < max 1 (zPO m 0) ∧ m.1 5 0 1 < max 1 (zPO m 1)
theorem zNP_fr {e : Nat → Nat → Nat → Prop} {m m1 : wm} {c : Int} (h : zNP m) (hG : zB c m) (hf : zfr e m m1) (h1 : ∀ f, ¬ e 6 f 4) (h2 : ∀ t, ¬ e 10 t 2) (h3 : ∀ i, 59 ≤ i → i < 101 → ¬ e 1 i 1) (h4 : ∀ j, ¬ e 5 0 j) : zNP m1 := by
  unfold zNP
  rw [zPO_fr hG hf h1 h2 h3, zPO_fr hG hf h1 h2 h3, (hf 5 0 0 (h4 0)).1, (hf 5 0 1 (h4 1)).1]
  exact h
theorem zNP_z {m : wm} (h0 : m.1 5 0 0 = 0) (h1 : m.1 5 0 1 = 0) : zNP m := by
  unfold zNP
  omega
/-- the reference's -/
def zgr (m : wm) (q : Nat) : Nat → Int := fun i => m.1 44 0 (7 * q + i)
def zRT (m : wm) (q : Nat) : Int := zTq (zgr m q) (m.1 43 0 q).toNat
def zRF (m : wm) (f : Nat) (a : Int) : Int := if 1 ≤ m.1 42 0 f - a then zRT m (3 * f + ((m.1 42 0 f - a) % 3).toNat) else 0
/-- (the reference's sorts are the other way round) -/
def zRX (m : wm) (f : Nat) (x : Int) : Int := if x = 0 then zRF m f 2 + zRF m f 1 else zRF m f 0
def zRO (m : wm) (x : Int) : Int := zRX m 0 x + zRX m 1 x
theorem zRF_c (m : wm) (f : Nat) (a : Int) : (1 ≤ m.1 42 0 f - a → zRF m f a = zRT m (3 * f + ((m.1 42 0 f - a) % 3).toNat)) ∧ (m.1 42 0 f - a < 1 → zRF m f a = 0) := by
  unfold zRF
  refine ⟨fun h => by rw [if_pos h], fun h => by rw [if_neg (by omega)]⟩
theorem zRT_nn (m : wm) (t : Nat) : 0 ≤ zRT m t ∧ (1 ≤ m.1 43 0 t → 2 ≤ zRT m t) := by
  have h := zTq_nn (zgr m t) (m.1 43 0 t).toNat
  unfold zRT
  omega
theorem zRF_nn (m : wm) (f : Nat) (a : Int) : 0 ≤ zRF m f a := by
  have h := zRF_c m f a
  have h1 := (zRT_nn m (3 * f + ((m.1 42 0 f - a) % 3).toNat)).1
  omega
theorem zRX_c (m : wm) (f : Nat) (x : Int) : (x = 0 → zRX m f x = zRF m f 2 + zRF m f 1) ∧ (x = 1 → zRX m f x = zRF m f 0) := by
  unfold zRX
  refine ⟨fun h => by rw [if_pos h], fun h => by rw [if_neg (by omega)]⟩
theorem zRO_e (m : wm) (x : Int) : zRO m x = zRX m 0 x + zRX m 1 x := rfl
def zRH (m : wm) (x z : Int) : Int := if z ≤ 0 then 0 else if z = 1 then zRX m 0 x else zRO m x
/-- before the version that is so many commits old -/
def zRJ (m : wm) (x : Int) (f : Nat) (a : Int) : Int := if x = 1 then (if 0 ≤ a then 0 else zRF m f 0) else (if 2 ≤ a then 0 else if a = 1 then zRF m f 2 else zRF m f 2 + zRF m f 1)
theorem zRH_s (m : wm) (x z : Int) : 0 ≤ z → z ≤ 1 → zRH m x (z + 1) = zRH m x z + zRX m z.toNat x := by
  intro h h1
  rcases (show z = 0 ∨ z = 1 by omega) with rfl | rfl
  · show (if (1 : Int) ≤ 0 then 0 else if (1 : Int) = 1 then zRX m 0 x else zRO m x) = 0 + zRX m 0 x
    rw [if_neg (by decide), if_pos rfl, Int.zero_add]
  · show (if (2 : Int) ≤ 0 then 0 else if (2 : Int) = 1 then zRX m 0 x else zRO m x) = (if (1 : Int) ≤ 0 then 0 else if (1 : Int) = 1 then zRX m 0 x else zRO m x) + zRX m 1 x
    rw [if_neg (by decide), if_neg (by decide), if_neg (by decide), if_pos rfl]
    rfl
theorem zRH_e (m : wm) (x z : Int) : (z = 0 → zRH m x z = 0) ∧ (z = 2 → zRH m x z = zRO m x) := by
  refine ⟨fun h => by rw [h]; rfl, fun h => ?_⟩
  rw [h]
  show (if (2 : Int) ≤ 0 then 0 else if (2 : Int) = 1 then zRX m 0 x else zRO m x) = _
  rw [if_neg (by decide), if_neg (by decide)]
theorem zRJ_c (m : wm) (x : Int) (f : Nat) (a : Int) : (x = 1 → 0 ≤ a → zRJ m x f a = 0) ∧ (x = 1 → a < 0 → zRJ m x f a = zRF m f 0) ∧ (x = 0 → 2 ≤ a → zRJ m x f a = 0) ∧ (x = 0 → a = 1 → zRJ m x f a = zRF m f 2) ∧ (x = 0 → a ≤ 0 → zRJ m x f a = zRF m f 2 + zRF m f 1) := by
  unfold zRJ
  refine ⟨fun h h1 => by rw [if_pos h, if_pos h1], fun h h1 => by rw [if_pos h, if_neg (by omega)], fun h h1 => by rw [if_neg (by omega), if_pos h1], fun h h1 => by rw [if_neg (by omega), if_neg (by omega), if_pos h1], fun h h1 => by rw [if_neg (by omega), if_neg (by omega), if_neg (by omega)]⟩
/-- a step -/
theorem zRJ_s (m : wm) (x : Int) (f : Nat) (v l : Int) (hl : l = m.1 42 0 f) : (x = 1 ∧ v = l ∨ x = 0 ∧ 1 ≤ v ∧ l - 2 ≤ v ∧ v < l) → 1 ≤ v → zRJ m x f (l - (v + 1)) = zRJ m x f (l - v) + zRT m (3 * f + (v % 3).toNat) := by
  intro h h1
  have e : zRF m f (l - v) = zRT m (3 * f + (v % 3).toNat) := by
    rw [(zRF_c m f (l - v)).1 (by omega), show m.1 42 0 f - (l - v) = v by omega]
  rw [← e]
  rcases (show x = 1 ∧ v = l ∨ x = 0 ∧ l - v = 2 ∨ x = 0 ∧ l - v = 1 by omega) with ⟨hx, hv⟩ | ⟨hx, hv⟩ | ⟨hx, hv⟩
  · rw [(zRJ_c m x f (l - (v + 1))).2.1 hx (by omega), (zRJ_c m x f (l - v)).1 hx (by omega), show l - v = 0 by omega, Int.zero_add]
  · rw [(zRJ_c m x f (l - (v + 1))).2.2.2.1 hx (by omega), (zRJ_c m x f (l - v)).2.2.1 hx (by omega), hv, Int.zero_add]
  · rw [(zRJ_c m x f (l - (v + 1))).2.2.2.2 hx (by omega), (zRJ_c m x f (l - v)).2.2.2.1 hx hv, hv]
/-- it begins, and it ends -/
theorem zRJ_b (m : wm) (x : Int) (f : Nat) (v l : Int) (hl : l = m.1 42 0 f) : (x = 1 ∧ v = l ∨ x = 0 ∧ (2 < l ∧ v = l - 2 ∨ l ≤ 2 ∧ v = 1)) → 0 ≤ l → zRJ m x f (l - v) = 0 := by
  intro h h1
  rcases h with ⟨hx, hv⟩ | ⟨hx, ⟨h2, hv⟩ | ⟨h2, hv⟩⟩
  · exact (zRJ_c m x f (l - v)).1 hx (by omega)
  · exact (zRJ_c m x f (l - v)).2.2.1 hx (by omega)
  · rcases (show l = 2 ∨ l ≤ 1 by omega) with h3 | h3
    · rw [(zRJ_c m x f (l - v)).2.2.2.1 hx (by omega)]
      exact (zRF_c m f 2).2 (by omega)
    · rw [(zRJ_c m x f (l - v)).2.2.2.2 hx (by omega), (zRF_c m f 2).2 (by omega), (zRF_c m f 1).2 (by omega)]
      rfl
theorem zRJ_e (m : wm) (x : Int) (f : Nat) (v l : Int) (hl : l = m.1 42 0 f) : (x = 0 ∨ x = 1) → 0 ≤ l → (l < v ∨ l ≤ 0 ∧ (x = 1 ∧ v = l ∨ x = 0 ∧ v = 1)) → zRJ m x f (l - v) = zRX m f x := by
  intro hx h1 h
  rcases hx with hx | hx
  · rw [(zRJ_c m x f (l - v)).2.2.2.2 hx (by omega), (zRX_c m f x).1 hx]
  · rw [(zRX_c m f x).2 hx]
    rcases h with h | ⟨h2, h⟩
    · exact (zRJ_c m x f (l - v)).2.1 hx (by omega)
    · rw [(zRJ_c m x f (l - v)).1 hx (by omega), (zRF_c m f 0).2 (by omega)]
/-- the version that is passed over -/
theorem zRJ_p (m : wm) (x : Int) (f : Nat) (v l : Int) : x = 0 → v = l → zRJ m x f (l - (v + 1)) = zRJ m x f (l - v) := by
  intro hx h
  rw [(zRJ_c m x f (l - (v + 1))).2.2.2.2 hx (by omega), (zRJ_c m x f (l - v)).2.2.2.2 hx (by omega)]
def zRC (m : wm) : Prop := ∀ f, f < 2 → 1 ≤ m.1 42 0 f → 1 ≤ m.1 43 0 (3 * f + (m.1 42 0 f % 3).toNat)
theorem zRO_1 {m : wm} (hI : zRC m) (h : 1 ≤ m.1 42 0 0 ∨ 1 ≤ m.1 42 0 1) : 1 ≤ zRO m 1 := by
  have a0 := zRF_c m 0 0
  have b0 := zRF_c m 1 0
  have a1 := zRF_nn m 0 0
  have b1 := zRF_nn m 1 0
  have c0 := (zRX_c m 0 1).2 rfl
  have c1 := (zRX_c m 1 1).2 rfl
  have d := zRO_e m 1
  rw [Int.sub_zero] at a0 b0
  rcases h with h | h
  · have e := (zRT_nn m (3 * 0 + (m.1 42 0 0 % 3).toNat)).2 (hI 0 (by decide) h)
    omega
  · have e := (zRT_nn m (3 * 1 + (m.1 42 0 1 % 3).toNat)).2 (hI 1 (by decide) h)
    omega
theorem zRC_fr {e : Nat → Nat → Nat → Prop} {m m1 : wm} (h : zRC m) (hf : zfr e m m1) (h1 : ∀ f, ¬ e 42 0 f) (h2 : ∀ t, ¬ e 43 0 t) : zRC m1 := fun f hf2 h4 => by
  rw [(hf 42 0 f (h1 f)).1] at h4 ⊢
  rw [(hf 43 0 _ (h2 _)).1]
  exact h f hf2 h4
theorem zRO_fr {e : Nat → Nat → Nat → Prop} {m m1 : wm} (hf : zfr e m m1) (h1 : ∀ f, ¬ e 42 0 f) (h2 : ∀ t, ¬ e 43 0 t) (h3 : ∀ t, ¬ e 44 0 t) (x : Int) : zRO m1 x = zRO m x := by
  have hT : ∀ t, zRT m1 t = zRT m t := fun t => by
    unfold zRT
    rw [(hf 43 0 t (h2 t)).1]
    exact zTq_congr fun i _ => (hf 44 0 _ (h3 _)).1
  have hF : ∀ f a, zRF m1 f a = zRF m f a := fun f a => by
    unfold zRF
    rw [(hf 42 0 f (h1 f)).1, hT]
  unfold zRO zRX
  rw [hF, hF, hF, hF, hF, hF]
theorem zlim_sl {s : Nat} (h : 3 ≤ s) (h1 : s < 35) : zlim s = 24 := by
  unfold zlim
  rw [if_neg (by omega), if_neg (by omega), if_neg (by omega), if_pos h1]
theorem zfr_eq {m m1 : wm} (h : zfr (fun _ _ _ => False) m m1) : m = m1 := by
  obtain ⟨a, b, c⟩ := m
  obtain ⟨a1, b1, c1⟩ := m1
  have h1 : a = a1 := funext fun k => funext fun i => funext fun j => ((h k i j id).1).symm
  have h2 : b = b1 := funext fun k => funext fun i => funext fun j => ((h k i j id).2.1).symm
  have h3 : c = c1 := funext fun k => funext fun i => funext fun j => ((h k i j id).2.2).symm
  rw [h1, h2, h3]
theorem zNP_w0 {c : Int} {m : wm} {i j : Nat} {X : Int} (hG : zB c m) (h : zNP m) : zNP (wuI m 0 i j X) :=
  zNP_fr (e := fun k _ _ => k = 0) h hG (zfr_wI zfr_rf rfl) (fun _ => (by decide : ¬ (6 = 0))) (fun _ => (by decide : ¬ (10 = 0))) (fun _ _ _ => (by decide : ¬ (1 = 0))) (fun _ => (by decide : ¬ (5 = 0)))
theorem zNP_wL {m : wm} {k i j : Nat} {x : Int64} (h : zNP m) : zNP (wuL m k i j x) := h
theorem zR_le {m : wm} {x z v l : Int} (hz : 0 ≤ z) (hz1 : z ≤ 1) (hx : x = 0 ∨ x = 1) (hl : l = m.1 42 0 z.toNat) (h1 : 1 ≤ v) (h : x = 1 ∧ v = l ∨ x = 0 ∧ 1 ≤ v ∧ l - 2 ≤ v ∧ v < l) : zRH m x z + zRJ m x z.toNat (l - (v + 1)) ≤ zRO m x := by
  have hH : zRH m x z + zRX m z.toNat x ≤ zRO m x := by
    have e := zRO_e m x
    have n0 : 0 ≤ zRX m 0 x := by
      have a0 := zRF_nn m 0 0; have a1 := zRF_nn m 0 1; have a2 := zRF_nn m 0 2
      unfold zRX
      split <;> omega
    have n1 : 0 ≤ zRX m 1 x := by
      have a0 := zRF_nn m 1 0; have a1 := zRF_nn m 1 1; have a2 := zRF_nn m 1 2
      unfold zRX
      split <;> omega
    have s9 := zRH_s m x z hz hz1
    rcases (show z = 0 ∨ z = 1 by omega) with rfl | rfl
    · rw [(zRH_e m x 0).1 rfl]
      show 0 + zRX m 0 x ≤ _
      omega
    · rw [← s9]
      rw [show (1 : Int) + 1 = 2 from rfl, (zRH_e m x 2).2 rfl]
      omega
  have hJ : zRJ m x z.toNat (l - (v + 1)) ≤ zRX m z.toNat x := by
    have a1 := zRF_nn m z.toNat 1; have a2 := zRF_nn m z.toNat 2
    rcases (show x = 1 ∧ v = l ∨ x = 0 ∧ l - (v + 1) = 1 ∨ x = 0 ∧ l - (v + 1) = 0 by omega) with ⟨h2, h3⟩ | ⟨h2, h3⟩ | ⟨h2, h3⟩
    · rw [(zRJ_c m x z.toNat (l - (v + 1))).2.1 h2 (by omega), (zRX_c m z.toNat x).2 h2]
      omega
    · rw [(zRJ_c m x z.toNat (l - (v + 1))).2.2.2.1 h2 h3, (zRX_c m z.toNat x).1 h2]
      omega
    · rw [(zRJ_c m x z.toNat (l - (v + 1))).2.2.2.2 h2 (by omega), (zRX_c m z.toNat x).1 h2]
      omega
  omega
