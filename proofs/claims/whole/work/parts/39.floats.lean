/-! QUOTIENTS ARE NUMBERS -/
def okD (f : FP.Core.Fmt) : FP.Core.Datum → Prop
  | .nan => False
  | .inf _ => True
  | .fin _ c q => c < 2 ^ f.p ∧ f.qmin ≤ q ∧ q ≤ f.qmax
def fnD : FP.Core.Datum → Bool
  | .fin _ c _ => c != 0
  | _ => false
def fzD : FP.Core.Datum → Bool
  | .fin _ _ _ => true
  | _ => false
theorem okD_bound {f : FP.Core.Fmt} {s : Bool} {c : Nat} {q : Int} (hc : c < 2 ^ f.p) (hq : f.qmin ≤ q) : okD f (FP.Core.bound f s c q) := by
  unfold FP.Core.bound
  split
  · next h => exact ⟨hc, hq, h⟩
  · trivial
theorem okD_ratio {f : FP.Core.Fmt} (hp : 0 < f.p) (hz : f.qmin ≤ f.qmax) (s : Bool) (n d : Nat) (e : Int) : okD f (FP.Core.roundRatio f s n d e) := by
  unfold FP.Core.roundRatio
  split
  · exact ⟨Nat.two_pow_pos _, Int.le_refl _, hz⟩
  · unfold FP.Core.roundAt FP.Core.settle
    have hq : f.qmin ≤ FP.Core.quantum f n d e := by unfold FP.Core.quantum; omega
    split
    · next h => exact okD_bound h hq
    · refine okD_bound ?_ (by omega)
      unfold FP.Core.Fmt.tails
      exact Nat.pow_lt_pow_right (by decide) (by omega)
theorem okD_32 {d : FP.Core.Datum} (h : okD FP.Core.b32 d) : vf_n32 (UInt32.ofNat (FP.Core.encode FP.Core.b32 d)) := by
  unfold vf_n32
  cases d with
  | nan => exact h.elim
  | inf s => cases s <;> decide +kernel
  | fin s c q =>
    obtain ⟨h1, h2, h3⟩ := h
    have h1 : c < 16777216 := h1
    have h2 : (-149 : Int) ≤ q := h2
    have h3 : q ≤ 104 := h3
    rw [UInt32.le_iff_toNat_le, UInt32.toNat_and]
    show (UInt32.ofNat _).toNat &&& (2 ^ 31 - 1) ≤ 2139095040
    rw [Nat.and_two_pow_sub_one_eq_mod]
    show (if c < 8388608 then (s.toNat * 256 + 0) * 8388608 + c else (s.toNat * 256 + ((q - (-149)).toNat + 1)) * 8388608 + (c - 8388608)) % 2 ^ 32 % 2 ^ 31 ≤ 2139095040
    have hs : s.toNat = 0 ∨ s.toNat = 1 := by cases s <;> simp
    split <;> rcases hs with e | e <;> rw [e] <;> omega
theorem okD_64 {d : FP.Core.Datum} (h : okD FP.Core.b64 d) : vf_n64 (UInt64.ofNat (FP.Core.encode FP.Core.b64 d)) := by
  unfold vf_n64
  cases d with
  | nan => exact h.elim
  | inf s => cases s <;> decide +kernel
  | fin s c q =>
    obtain ⟨h1, h2, h3⟩ := h
    have h1 : c < 9007199254740992 := h1
    have h2 : (-1074 : Int) ≤ q := h2
    have h3 : q ≤ 971 := h3
    rw [UInt64.le_iff_toNat_le, UInt64.toNat_and]
    show (UInt64.ofNat _).toNat &&& (2 ^ 63 - 1) ≤ 9218868437227405312
    rw [Nat.and_two_pow_sub_one_eq_mod]
    show (if c < 4503599627370496 then (s.toNat * 2048 + 0) * 4503599627370496 + c else (s.toNat * 2048 + ((q - (-1074)).toNat + 1)) * 4503599627370496 + (c - 4503599627370496)) % 2 ^ 64 % 2 ^ 63 ≤ 9218868437227405312
    have hs : s.toNat = 0 ∨ s.toNat = 1 := by cases s <;> simp
    split <;> rcases hs with e | e <;> rw [e] <;> omega
theorem quo_ok {f : FP.Core.Fmt} (hp : 0 < f.p) (hz : f.qmin ≤ f.qmax) {x y : FP.Core.Datum} (hx : fzD x = true) (hy : fnD y = true) : okD f (FP.Core.quotient f x y) := by
  cases x with
  | nan => simp [fzD] at hx
  | inf s => simp [fzD] at hx
  | fin s c q =>
    cases y with
    | nan => simp [fnD] at hy
    | inf t => simp [fnD] at hy
    | fin t d r =>
      have hd : d ≠ 0 := by simpa [fnD] using hy
      show okD f (if d = 0 then _ else _)
      rw [if_neg hd]
      exact okD_ratio hp hz _ _ _ _
theorem i2f_z : ∀ n, n < 201 → fzD (FP.Core.decode FP.Core.b32 (FP.i2f (nI n)).toNat) = true ∧ (n ≠ 0 → fnD (FP.Core.decode FP.Core.b32 (FP.i2f (nI n)).toNat) = true) := by decide +kernel
theorem i2d_z : ∀ n, n < 201 → fzD (FP.Core.decode FP.Core.b64 (FP.i2d (nI n)).toNat) = true ∧ (n ≠ 0 → fnD (FP.Core.decode FP.Core.b64 (FP.i2d (nI n)).toNat) = true) := by decide +kernel
theorem nn32 {a n : Nat} (ha : a < 201) (hn : n < 201) (h0 : n ≠ 0) : vf_n32 (FP.fdiv (FP.i2f (nI a)) (FP.i2f (nI n))) := okD_32 (quo_ok (by decide) (by decide) (i2f_z a ha).1 ((i2f_z n hn).2 h0))
theorem nn64 {a n : Nat} (ha : a < 201) (hn : n < 201) (h0 : n ≠ 0) : vf_n64 (FP.ddiv (FP.i2d (nI a)) (FP.i2d (nI n))) := okD_64 (quo_ok (by decide) (by decide) (i2d_z a ha).1 ((i2d_z n hn).2 h0))
