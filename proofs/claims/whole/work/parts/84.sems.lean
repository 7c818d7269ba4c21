/-! WHAT EACH CALL ANSWERS: its code (0: an answer), the answer, the state behind it -/
abbrev R3 : Type := Nat × Value × SQ
def smE (x : Int32) (s : SQ) (k : Nat → R3) : R3 := if x = 0 then k 0 else if x = 1 then k 1 else (1, .null, s)
theorem smE_e {s : SQ} {k : Nat → R3} {e : Nat} (he : e ≤ 1) : smE (nI e) s k = k e := by
  rcases (show e = 0 ∨ e = 1 by omega) with rfl | rfl
  · exact if_pos rfl
  · unfold smE; rw [if_neg (by decide), if_pos (by decide)]
theorem smE_n {x : Int32} {s : SQ} {k : Nat → R3} (h : ¬ (x = 0 ∨ x = 1)) : smE x s k = (1, .null, s) := by
  unfold smE; rw [if_neg (fun y => h (Or.inl y)), if_neg (fun y => h (Or.inr y))]
def smP {α : Type} (p : Int32) (L : List α) (bad : R3) (k : Nat → α → R3) : R3 := if p < 0 then bad else match L[p.toNatClampNeg]? with
  | some y => k p.toNatClampNeg y
  | none => bad
theorem smP_i {α : Type} {L : List α} {bad : R3} {k : Nat → α → R3} {i : Nat} {y : α} (hy : L[i]? = some y) (hl : L.length ≤ 200) : smP (nI i) L bad k = k i y := by
  have hi := (List.getElem?_eq_some_iff.mp hy).1
  unfold smP
  rw [if_neg (nI_pos (by omega)), nI_clamp (by omega), hy]
theorem smP_n {α : Type} {p : Int32} {L : List α} {bad : R3} {k : Nat → α → R3} (h : ¬ (¬ p < 0 ∧ p < nI L.length)) (hl : L.length ≤ 200) : smP p L bad k = bad := by
  unfold smP
  by_cases y : p < 0
  · rw [if_pos y]
  · obtain ⟨i, hi, rfl⟩ := nI_of y
    have : L.length ≤ i := by
      rcases Nat.lt_or_ge i L.length with u | u
      · exact absurd ⟨y, nI_lt u (by omega)⟩ h
      · exact u
    rw [if_neg y, nI_clamp hi, List.getElem?_eq_none this]
theorem smP_y {α : Type} {p : Int32} {L : List α} (h : ¬ p < 0 ∧ p < nI L.length) (hl : L.length ≤ 200) : ∃ (i : Nat) (y : α), p = nI i ∧ L[i]? = some y := by
  obtain ⟨i, hi, rfl⟩ := nI_of h.1
  have hil := (nI_ltI (by omega) (by omega)).mp h.2
  exact ⟨i, _, rfl, List.getElem?_eq_getElem hil⟩
abbrev dPL (s : SQ) (e : Nat) (p : Int32) : Prop := ¬ p < 0 ∧ p ≤ nI (eX (zE s e)).length
abbrev dCH (d : Int32) : Prop := ¬ d < 32 ∧ d ≤ 126
abbrev dRM (s : SQ) (e : Nat) : Prop := (eX (zE s e)).length < 60 ∧ zM s < 200
theorem dPL_i {s : SQ} {e i : Nat} (hi : i ≤ (eX (zE s e)).length) (hl : (eX (zE s e)).length ≤ 200) : dPL s e (nI i) := ⟨nI_pos (by omega), nI_le hi (by omega)⟩
theorem dCH_c {c : Nat} (h1 : 32 ≤ c) (h2 : c ≤ 126) : dCH (nI c) := ⟨nI_nlt (a := c) (b := 32) h1 (by omega), nI_le (b := 126) h2 (by decide)⟩
/-- a call of one end that reads -/
def smG (f : Nat → Value) (x : Int32) (s : SQ) : R3 := smE x s (fun e => (0, f e, s))
def smInsert (x p d : Int32) (s : SQ) : R3 := smE x s (fun e => if dPL s e p ∧ dCH d then (if dRM s e then (0, .int (nI (eX (zE (sIns s e p.toNatClampNeg d.toNatClampNeg) e)).length), sIns s e p.toNatClampNeg d.toNatClampNeg) else (3, .null, s)) else (2, .null, s))
def smType (x d : Int32) (s : SQ) : R3 := smE x s (fun e => if dCH d then (if dRM s e then (0, .int (nI (eC (zE (sIns s e (eC (zE s e)) d.toNatClampNeg) e))), sIns s e (eC (zE s e)) d.toNatClampNeg) else (3, .null, s)) else (2, .null, s))
def smDelete (x p : Int32) (s : SQ) : R3 := smE x s (fun e => smP p (eX (zE s e)) (2, .null, s) (fun i y => if zM s < 200 then (0, .int (nI (zT s y).1), sDel s e i y) else (3, .null, s)))
def smErase (x : Int32) (s : SQ) : R3 := smE x s (fun e => if eC (zE s e) = 0 then (2, .null, s) else if zM s < 200 then (match (eX (zE s e))[eC (zE s e) - 1]? with
  | some y => (0, .int (nI (zT s y).1), sDel s e (eC (zE s e) - 1) y)
  | none => (9, .null, s)) else (3, .null, s))
def smMove (x p : Int32) (s : SQ) : R3 := smE x s (fun e => if dPL s e p then (0, .int (nI (eC (zE s e))), sCur s e p.toNatClampNeg) else (2, .null, s))
def smUndo (x : Int32) (s : SQ) : R3 := smE x s (fun e => match (eK (zE s e))[(eK (zE s e)).length - 1]? with
  | none => (2, .null, s)
  | some k => if k.1 = 1 then (match fnd (eX (zE s e)) k.2.1 0 with
    | none => (0, .int 0, drpK s e)
    | some i => if zM s < 200 then (0, .int 1, sUnI s e i k.2.1) else (3, .null, s)) else if dRM s e then (0, .int 1, sUnD s e k.2.2 k.2.1) else (3, .null, s))
def smUp (x : Int32) (s : SQ) : R3 := smE x s (fun e => match zU s e with
  | [] => (2, .null, s)
  | m :: _ => (0, .int (nI m.2.2.length), sUp s e m))
def smDown (x : Int32) (s : SQ) : R3 := smE x s (fun e => match (zH s)[eR (zE s e)]? with
  | none => (2, .null, s)
  | some m => (0, .int (if m.1 = e then 97 else 111), sDn s e m))
def smC (f : Nat → Value) (x p : Int32) (s : SQ) : R3 := smE x s (fun e => smP p (eX (zE s e)) (2, .null, s) (fun _ y => (0, f y, s)))
def smCC (p : Int32) (s : SQ) : R3 := smP p (zC s) (1, .null, s) (fun _ y => (0, .int (nI (zT s y).1), s))
def smH (f : MG → Value) (p : Int32) (s : SQ) : R3 := smP p (zH s) (1, .null, s) (fun _ m => (0, f m, s))
def smHo (f : SO → Value) (p r : Int32) (s : SQ) : R3 := smP p (zH s) (1, .null, s) (fun _ m => smP r m.2.2 (2, .null, s) (fun _ o => (0, f o, s)))
def smShare (x : Int32) (s : SQ) : R3 := smE x s (fun e => if (eX (zE s e)).length = 0 then (2, .null, s) else (0, .float (FP.fdiv (FP.i2f (nI (cow (zT s) e (eX (zE s e))))) (FP.i2f (nI (eX (zE s e)).length))), s))
def smMean (s : SQ) : R3 := if (zH s).length = 0 then (1, .null, s) else (0, .double (FP.ddiv (FP.i2d (nI ((zH s).map (fun x => x.2.2.length)).sum)) (FP.i2d (nI (zH s).length))), s)
/-! WHAT HOLDS BEHIND EACH -/
theorem Ph_same {s t : SQ} (h1 : zM t = zM s) (h2 : zH t = zH s) (h3 : ∀ i, zU t i = zU s i) (h4 : ∀ i, eW (zE t i) = eW (zE s i)) (h5 : ∀ i, eR (zE t i) = eR (zE s i)) : Ph t = Ph s := by
  unfold Ph dPh dwn
  rw [h1, h2, h3 0, h3 1, h4 0, h4 1, h5 0, h5 1]
theorem Ph_zsE {s : SQ} {e : Nat} {x : EQ} (a : eW x = eW (zE s e)) (b : eR x = eR (zE s e)) : Ph (zsE s e x) = Ph s := by
  refine Ph_same rfl rfl (fun _ => rfl) (fun i => ?_) (fun i => ?_)
  · by_cases y : i = e
    · subst y; rw [zE_s]; exact a
    · rw [zE_n _ _ y]
  · by_cases y : i = e
    · subst y; rw [zE_s]; exact b
    · rw [zE_n _ _ y]
theorem Ph_doM {s : SQ} {e : Nat} {o : SO} (he : e ≤ 1) (hM : zM s < 200) : Ph (doM s e o) ≤ Ph s := by
  have eH : zH (doM s e o) = zH s := rfl
  have eM : zM (doM s e o) = zM s + 1 := rfl
  have nE : ∀ i, i ≠ e → zE (doM s e o) i = zE s i := fun i y => zu_n y
  have nU : ∀ i, i ≠ e → zU (doM s e o) i = zU s i := fun i y => zu_n y
  have eRR : ∀ i, eR (zE (doM s e o) i) = eR (zE s i) := fun i => by
    by_cases y : i = e
    · subst y; rw [doM_E]; rfl
    · rw [nE i y]
  have d : ∀ i, dPh (doM s e o) i = dPh s i := fun i => by unfold dPh dwn; rw [eH, eRR]
  have key : 4200 * (eW (zE (doM s e o) e)).length + 4100 * (hop (zU (doM s e o) e)).length ≤ 4200 * (eW (zE s e)).length + 4100 * (hop (zU s e)).length + 4200 := by
    rw [doM_E, show zU (doM s e o) e = sdm s e (if eS (zE s e) = [] then [o] else []) from zu_s]
    unfold sdm
    by_cases es : eS (zE s e) = []
    · rw [if_pos es, if_neg (List.cons_ne_nil _ _), hop_app, List.length_append, show eW (mak (zE s e) o) = eW (zE s e) from if_pos es, show (hop [(e, eR (zE s e), [o])]).length = 1 from rfl]
      omega
    · rw [if_neg es, if_pos rfl, show eW (mak (zE s e) o) = eW (zE s e) ++ [o] from if_neg es, List.length_append, show [o].length = 1 from rfl]
      omega
  unfold Ph
  rw [d 0, d 1, eM]
  rcases (show e = 0 ∨ e = 1 by omega) with rfl | rfl
  · rw [nE 1 (by decide), nU 1 (by decide)]; omega
  · rw [nE 0 (by decide), nU 0 (by decide)]; omega
/-- the invariants and the room behind a call -/
def KR (s : SQ) (S : R3) : Prop := INV S.2.2 ∧ TOs S.2.2 ∧ Ph S.2.2 ≤ Ph s ∧ S.1 ≤ 3
theorem KR.id {s : SQ} (hI : INV s) (hT : TOs s) (c : Nat) (v : Value) (hc : c ≤ 3) : KR s (c, v, s) := ⟨hI, hT, Nat.le_refl _, hc⟩
theorem KR_e {s : SQ} (hI : INV s) (hT : TOs s) {x : Int32} {k : Nat → R3} (h : ∀ e, e ≤ 1 → KR s (k e)) : KR s (smE x s k) := by
  unfold smE
  split
  · exact h 0 (by decide)
  · split
    · exact h 1 (by decide)
    · exact KR.id hI hT 1 _ (by decide)
theorem KR_p {α : Type} {s : SQ} {p : Int32} {L : List α} {bad : R3} {k : Nat → α → R3} (h : ∀ (i : Nat) (y : α), L[i]? = some y → KR s (k i y)) (hb : KR s bad) : KR s (smP p L bad k) := by
  unfold smP
  split
  · exact hb
  · split
    · next y hy => exact h _ y hy
    · exact hb
