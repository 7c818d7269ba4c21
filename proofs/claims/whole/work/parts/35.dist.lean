/-! DISTANCE -/
def dsp (f : Nat → Bool) (i : Nat) (p : Nat → Nat) : Nat → Nat
  | 0 => i + 1
  | j + 1 => if f j then p j else min (p (j + 1)) (dsp f i p j) + 1
/-- the fewest changes between two beginnings -/
def dst (f : Nat → Nat → Bool) : Nat → Nat → Nat
  | 0 => fun j => j
  | i + 1 => dsp (f i) i (dst f i)
theorem dst_0 (f : Nat → Nat → Bool) (j : Nat) : dst f 0 j = j := rfl
theorem dst_l (f : Nat → Nat → Bool) : ∀ i : Nat, dst f i 0 = i
  | 0 => rfl
  | _ + 1 => rfl
theorem dst_s (f : Nat → Nat → Bool) (i j : Nat) : dst f (i + 1) (j + 1) = if f i j then dst f i j else min (dst f i (j + 1)) (dst f (i + 1) j) + 1 := rfl
theorem dst_t {f : Nat → Nat → Bool} {i j : Nat} (h : f i j = true) : dst f (i + 1) (j + 1) = dst f i j := by rw [dst_s, if_pos h]
theorem dst_f {f : Nat → Nat → Bool} {i j : Nat} (h : f i j = false) : dst f (i + 1) (j + 1) = min (dst f i (j + 1)) (dst f (i + 1) j) + 1 := by rw [dst_s, h]; rfl
theorem dst_lip (f : Nat → Nat → Bool) : ∀ (n i j : Nat), i + j = n → (dst f i (j + 1) ≤ dst f i j + 1 ∧ dst f i j ≤ dst f i (j + 1) + 1) ∧ (dst f (i + 1) j ≤ dst f i j + 1 ∧ dst f i j ≤ dst f (i + 1) j + 1) := by
  intro n
  induction n using Nat.strongRecOn with
  | ind n ih =>
    intro i j hij
    constructor
    · cases i with
      | zero => rw [dst_0, dst_0]; omega
      | succ i =>
        obtain ⟨a, b⟩ := ih (i + j) (by omega) i j rfl
        cases hf : f i j with
        | true => rw [dst_t hf]; omega
        | false => rw [dst_f hf]; omega
    · cases j with
      | zero => rw [dst_l, dst_l]; omega
      | succ j =>
        obtain ⟨a, b⟩ := ih (i + j) (by omega) i j rfl
        cases hf : f i j with
        | true => rw [dst_t hf]; omega
        | false => rw [dst_f hf]; omega
theorem dst_r (f : Nat → Nat → Bool) (i j : Nat) : dst f i (j + 1) ≤ dst f i j + 1 ∧ dst f i j ≤ dst f i (j + 1) + 1 := (dst_lip f _ i j rfl).1
theorem dst_d (f : Nat → Nat → Bool) (i j : Nat) : dst f (i + 1) j ≤ dst f i j + 1 ∧ dst f i j ≤ dst f (i + 1) j + 1 := (dst_lip f _ i j rfl).2
theorem dst_mono (f : Nat → Nat → Bool) (i j : Nat) : dst f i j ≤ dst f (i + 1) (j + 1) := by
  have a := dst_r f i j
  have b := dst_d f i j
  cases hf : f i j with
  | true => rw [dst_t hf]; omega
  | false => rw [dst_f hf]; omega
theorem dst_monos (f : Nat → Nat → Bool) (i j : Nat) : ∀ t : Nat, dst f i j ≤ dst f (i + t) (j + t)
  | 0 => Nat.le_refl _
  | t + 1 => Nat.le_trans (dst_monos f i j t) (dst_mono f (i + t) (j + t))
theorem dst_gel (f : Nat → Nat → Bool) (i : Nat) : ∀ j : Nat, i ≤ dst f i j + j
  | 0 => by rw [dst_l]; omega
  | j + 1 => by have := dst_gel f i j; have := dst_r f i j; omega
theorem dst_ger (f : Nat → Nat → Bool) (j : Nat) : ∀ i : Nat, j ≤ dst f i j + i
  | 0 => by rw [dst_0]; omega
  | i + 1 => by have := dst_ger f j i; have := dst_d f i j; omega
theorem dst_up (f : Nat → Nat → Bool) : ∀ i j : Nat, dst f i j ≤ i + j
  | 0, j => by rw [dst_0]; omega
  | i + 1, j => by have := dst_up f i j; have := dst_d f i j; omega
theorem dst_par (f : Nat → Nat → Bool) (i : Nat) : ∀ j : Nat, dst f i j % 2 = (i + j) % 2 := by
  induction i with
  | zero => intro j; rw [dst_0]; omega
  | succ i ih =>
    intro j
    induction j with
    | zero => rw [dst_l]
    | succ j jh =>
      have a := ih j
      have b := ih (j + 1)
      cases hf : f i j with
      | true => rw [dst_t hf]; omega
      | false => rw [dst_f hf]; omega
theorem dst_outl {f : Nat → Nat → Bool} {x : Nat} (h : ∀ y, f x y = false) : ∀ y : Nat, dst f x y ≤ dst f (x + 1) y
  | 0 => by rw [dst_l, dst_l]; omega
  | y + 1 => by
    have a := dst_outl h y
    have b := dst_r f x y
    rw [dst_f (h y)]; omega
theorem dst_outr {f : Nat → Nat → Bool} {y : Nat} (h : ∀ x, f x y = false) : ∀ x : Nat, dst f x y ≤ dst f x (y + 1)
  | 0 => by rw [dst_0, dst_0]; omega
  | x + 1 => by
    have a := dst_outr h x
    have b := dst_d f x y
    rw [dst_f (h x)]; omega
theorem dst_out {f : Nat → Nat → Bool} {n m : Nat} (hl : ∀ x y, n ≤ x → f x y = false) (hr : ∀ x y, m ≤ y → f x y = false) (a b : Nat) : dst f n m ≤ dst f (n + a) (m + b) := by
  have h1 : dst f n m ≤ dst f (n + a) m := by
    induction a with
    | zero => exact Nat.le_refl _
    | succ a ih => exact Nat.le_trans ih (dst_outl (fun y => hl _ y (by omega)) m)
  refine Nat.le_trans h1 ?_
  induction b with
  | zero => exact Nat.le_refl _
  | succ b ih => exact Nat.le_trans ih (dst_outr (fun x => hr x _ (by omega)) (n + a))
/-- the farthest place on its diagonal that D changes reach -/
def fgo (f : Nat → Nat → Bool) (D x y : Nat) : Prop := dst f x y ≤ D ∧ D < dst f (x + 1) (y + 1)
theorem dst_run {f : Nat → Nat → Bool} {x y : Nat} : ∀ t : Nat, (∀ u, u < t → f (x + u) (y + u) = true) → dst f (x + t) (y + t) = dst f x y
  | 0, _ => rfl
  | t + 1, h => by
    have := dst_run t (fun u hu => h u (by omega))
    show dst f (x + t + 1) (y + t + 1) = _
    rw [dst_t (h t (by omega))]; exact this
theorem fgo_0 {f : Nat → Nat → Bool} {t : Nat} (h : ∀ u, u < t → f (0 + u) (0 + u) = true) (he : f (0 + t) (0 + t) = false) : fgo f 0 (0 + t) (0 + t) := by
  refine ⟨by rw [dst_run t h]; exact Nat.le_refl _, ?_⟩
  rw [dst_f he]; omega
theorem fgo_lt {f : Nat → Nat → Bool} {D x y a b : Nat} (z : fgo f D x y) (h : x < a) (hd : a + y = x + b) : D < dst f a b := by
  obtain ⟨t, rfl⟩ : ∃ t, a = x + 1 + t := ⟨a - x - 1, by omega⟩
  have : b = y + 1 + t := by omega
  subst this
  exact Nat.lt_of_lt_of_le z.2 (dst_monos f _ _ t)
/-- one more change: from beside, then along -/
theorem fgo_s {f : Nat → Nat → Bool} {D x y t : Nat} (h1 : dst f x y ≤ D + 1) (hl : D < dst f (x + t) (y + t + 1)) (hu : D < dst f (x + t + 1) (y + t)) (h : ∀ u, u < t → f (x + u) (y + u) = true) (he : f (x + t) (y + t) = false) : fgo f (D + 1) (x + t) (y + t) := by
  refine ⟨by rw [dst_run t h]; exact h1, ?_⟩
  rw [dst_f he]; omega
theorem mt_l {tb : Nat → Nat × Nat} {xs ys : List Nat} {p q : Nat} (h : xs.length ≤ p) : mt tb xs ys p q = false := by
  unfold mt
  rw [List.getElem?_eq_none h]
theorem mt_r {tb : Nat → Nat × Nat} {xs ys : List Nat} {p q : Nat} (h : ys.length ≤ q) : mt tb xs ys p q = false := by
  unfold mt
  rw [List.getElem?_eq_none h]
  cases xs[p]? <;> rfl
/-- places on diagonals, 401 in the middle -/
def nZ (p : Nat) : Int32 := nI p - 401
theorem nZ_int {p : Nat} (h : p < 2 ^ 30) : (nZ p).toInt = p - 401 := by
  unfold nZ
  rw [Int32.toInt_sub, nI_toInt (by omega)]
  have : (401 : Int32).toInt = 401 := by decide
  rw [this]
  exact Int.bmod_eq_of_le (by omega) (by omega)
theorem nZ_le {p D : Nat} (h : p < 2 ^ 30) (h2 : D < 2 ^ 30) : nZ p ≤ nI D ↔ p ≤ 401 + D := by
  rw [Int32.le_iff_toInt_le, nZ_int h, nI_toInt (by omega)]
  omega
theorem nZ_lt {p D : Nat} (h : p < 2 ^ 30) (h2 : D < 2 ^ 30) : nI D < nZ p ↔ 401 + D < p := by
  rw [Int32.lt_iff_toInt_lt, nZ_int h, nI_toInt (by omega)]
  omega
theorem nZ_eq {p D : Nat} (h : p < 2 ^ 30) (h2 : D < 2 ^ 30) : nZ p = nI D ↔ p = 401 + D := by
  rw [← Int32.toInt_inj, nZ_int h, nI_toInt (by omega)]
  omega
theorem nZ_neg {D : Nat} (h : D ≤ 401) : - nI D = nZ (401 - D) := by
  rw [← Int32.toInt_inj, nZ_int (by omega), Int32.toInt_neg, nI_toInt (by omega)]
  rw [Int.bmod_eq_of_le (by omega) (by omega)]
  omega
theorem nZ_inj {p q : Nat} (h : p < 2 ^ 30) (h2 : q < 2 ^ 30) : nZ p = nZ q ↔ p = q := by
  rw [← Int32.toInt_inj, nZ_int h, nZ_int h2]
  omega
theorem nZ_2 (p : Nat) : nZ p + 2 = nZ (p + 2) := by
  unfold nZ
  rw [← nI_1, ← nI_1, Int32.sub_eq_add_neg, Int32.sub_eq_add_neg, Int32.add_assoc (nI p), Int32.add_assoc, Int32.add_assoc]
  have : -(401 : Int32) + 2 = 1 + (1 + -401) := by decide
  rw [this]
theorem nZ_mid (p : Nat) : 401 + nZ p = nI p := by
  unfold nZ
  rw [Int32.add_comm]
  exact Int32.sub_add_cancel _ _
theorem nZ_sub {x p : Nat} (h : p ≤ x + 401) (h1 : p < 2 ^ 29) (h2 : x < 2 ^ 29) : nI x - nZ p = nI (x + 401 - p) := by
  rw [← Int32.toInt_inj, Int32.toInt_sub, nI_toInt (by omega), nZ_int (by omega), nI_toInt (by omega)]
  rw [Int.bmod_eq_of_le (by omega) (by omega)]
  omega
