/-! OPERATIONS, FRAMES -/
/-- an operation: kind (0 nothing, 1 insert, 2 delete), position, letter, maker -/
abbrev SO : Type := Nat × Nat × Nat × Nat
def kc (k : Nat) : Int32 := if k = 1 then 105 else if k = 2 then 100 else 110
def ps (k p : Nat) : Int32 := if k = 0 then -1 else nI p
theorem kc_1 (k : Nat) : kc k = 105 ↔ k = 1 := by
  unfold kc
  by_cases e : k = 1
  · simp [e]
  · by_cases e2 : k = 2
    · simp [e2]
    · rw [if_neg e, if_neg e2]; simp [e]
theorem kc_2 (k : Nat) : kc k = 100 ↔ k = 2 := by
  unfold kc
  by_cases e : k = 1
  · simp [e]
  · by_cases e2 : k = 2
    · simp [e2]
    · rw [if_neg e, if_neg e2]; simp [e2]
theorem kc_0 {k : Nat} (h : k ≤ 2) : kc k = 110 ↔ k = 0 := by
  rcases (show k = 0 ∨ k = 1 ∨ k = 2 by omega) with rfl | rfl | rfl <;> decide
theorem kc_fit (k : Nat) : narrow .char (.int (kc k)) = .int (kc k) ∧ fits .char (.int (kc k)) = true := by
  unfold kc
  by_cases e : k = 1
  · rw [if_pos e]; decide
  · rw [if_neg e]
    by_cases e2 : k = 2
    · rw [if_pos e2]; decide
    · rw [if_neg e2]; decide
theorem ps_p {k : Nat} (p : Nat) (h : k ≠ 0) : ps k p = nI p := if_neg h
theorem ps_0 (p : Nat) : ps 0 p = -1 := rfl
theorem nI_m1 {p : Nat} (h : 0 < p) : nI p - 1 = nI (p - 1) := by
  obtain ⟨q, rfl⟩ : ∃ q, p = q + 1 := ⟨p - 1, by omega⟩
  rw [Nat.add_sub_cancel, ← nI_1]
  exact Int32.add_sub_cancel _ _
/-- an operation, transformed by another one -/
def trf (a : SO) (k p m : Nat) : SO :=
  if a.1 = 0 ∨ k = 0 then a
  else if k = 1 then (if p < a.2.1 ∨ (p = a.2.1 ∧ (a.1 = 2 ∨ m = 0)) then (a.1, a.2.1 + 1, a.2.2) else a)
  else if p < a.2.1 then (a.1, a.2.1 - 1, a.2.2)
  else if a.1 = 2 ∧ p = a.2.1 then (0, 0, a.2.2) else a
def trb (a b : SO) : SO := trf a b.1 b.2.1 b.2.2.2
/-- where an operation is kept: la says where letters are -/
def OP (la : Nat → Nat) (h : AH) (a : Nat) (o : SO) : Prop :=
  qK h a = 7 ∧ qF h 600 a = .int (nI o.2.2.2) ∧ qF h 601 a = .ref (la o.2.2.1) ∧ qF h 602 a = .int (kc o.1) ∧ qF h 603 a = .int (ps o.1 o.2.1)
/-- who owns an object: a field that no class has -/
def own (h : AH) (a : Nat) : Value := qF h 9999 a
/-- all that is, is kept, but at S -/
def Fr (S : Nat → Prop) (h h' : AH) : Prop := ∀ a, qK h a ≠ 0 → qK h' a = qK h a ∧ own h' a = own h a ∧ (¬ S a → (∀ f, qF h' f a = qF h f a) ∧ qL h' a = qL h a ∧ qC h' a = qC h a ∧ qI h' a = qI h a)
theorem Fr.refl (S : Nat → Prop) (h : AH) : Fr S h h := fun _ _ => ⟨rfl, rfl, fun _ => ⟨fun _ => rfl, rfl, rfl, rfl⟩⟩
theorem Fr.K {S : Nat → Prop} {h h' : AH} (F : Fr S h h') {a k : Nat} (hk : qK h a = k) (h0 : k ≠ 0) : qK h' a = k := (F a (by omega)).1.trans hk
theorem Fr.O {S : Nat → Prop} {h h' : AH} (F : Fr S h h') {a : Nat} {v : Value} (hk : qK h a ≠ 0) (hv : own h a = v) : own h' a = v := (F a hk).2.1.trans hv
theorem Fr.F {S : Nat → Prop} {h h' : AH} (F : Fr S h h') {a f : Nat} {v : Value} (hk : qK h a ≠ 0) (hs : ¬ S a) (hv : qF h f a = v) : qF h' f a = v := (((F a hk).2.2 hs).1 f).trans hv
theorem Fr.L {S : Nat → Prop} {h h' : AH} (F : Fr S h h') {a : Nat} (hk : qK h a ≠ 0) (hs : ¬ S a) : qL h' a = qL h a := ((F a hk).2.2 hs).2.1
theorem Fr.C {S : Nat → Prop} {h h' : AH} (F : Fr S h h') {a : Nat} (hk : qK h a ≠ 0) (hs : ¬ S a) : qC h' a = qC h a := ((F a hk).2.2 hs).2.2.1
theorem Fr.I {S : Nat → Prop} {h h' : AH} (F : Fr S h h') {a : Nat} (hk : qK h a ≠ 0) (hs : ¬ S a) : qI h' a = qI h a := ((F a hk).2.2 hs).2.2.2
theorem Fr.trans {S S' U : Nat → Prop} {h h' h'' : AH} (F : Fr S h h') (G : Fr S' h' h'') (x : ∀ a, qK h a ≠ 0 → S a → U a) (y : ∀ a, qK h a ≠ 0 → S' a → U a) : Fr U h h'' := fun a ha => by
  obtain ⟨z1, z3, z2⟩ := F a ha
  obtain ⟨w1, w3, w2⟩ := G a (by rw [z1]; exact ha)
  refine ⟨w1.trans z1, w3.trans z3, fun hu => ?_⟩
  obtain ⟨p1, p2, p3, p4⟩ := z2 (fun z => hu (x a ha z))
  obtain ⟨q1, q2, q3, q4⟩ := w2 (fun z => hu (y a ha z))
  exact ⟨fun f => (q1 f).trans (p1 f), q2.trans p2, q3.trans p3, q4.trans p4⟩
theorem Fr.seq {S : Nat → Prop} {h h' h'' : AH} (F : Fr S h h') (G : Fr S h' h'') : Fr S h h'' := F.trans G (fun _ _ z => z) (fun _ _ z => z)
theorem Fr.mono {S U : Nat → Prop} {h h' : AH} (F : Fr S h h') (x : ∀ a, qK h a ≠ 0 → S a → U a) : Fr U h h' := fun a ha => ⟨(F a ha).1, (F a ha).2.1, fun hu => (F a ha).2.2 (fun z => hu (x a ha z))⟩
theorem Fr_sF {S : Nat → Prop} {h : AH} {f a : Nat} {v : Value} (hS : S a) (hf : f < 9999 := by decide) : Fr S h (sF h f a v) := fun b _ => ⟨rfl, by unfold own; rw [qF_sF, if_neg (fun z => by omega)], fun hb => ⟨fun g => by rw [qF_sF, if_neg (fun z => hb (by rw [z.2]; exact hS))], rfl, rfl, rfl⟩⟩
theorem Fr_sL {S : Nat → Prop} {h : AH} {a : Nat} {xs : List Nat} {c : Nat} (hS : S a) : Fr S h (sL h a xs c) := fun b _ => ⟨rfl, rfl, fun hb => ⟨fun g => rfl, by rw [qL_sL, if_neg (fun z => hb (by rw [z]; exact hS))], by rw [qC_sL, if_neg (fun z => hb (by rw [z]; exact hS))], rfl⟩⟩
theorem Fr_sI {S : Nat → Prop} {h : AH} {a : Nat} {xs : List Int32} (hS : S a) : Fr S h (sI h a xs) := fun b _ => ⟨rfl, rfl, fun hb => ⟨fun g => rfl, rfl, rfl, by rw [qI_sI, if_neg (fun z => hb (by rw [z]; exact hS))]⟩⟩
theorem Fr_sK {S : Nat → Prop} {h : AH} {q k : Nat} (hq : qK h q = 0) : Fr S h (sK h q k) := fun b hb => ⟨by rw [qK_sK, if_neg (fun z => hb (by rw [z]; exact hq))], rfl, fun _ => ⟨fun g => rfl, rfl, rfl, rfl⟩⟩
theorem Fr_nO {S : Nat → Prop} {h : AH} {q k : Nat} (hq : qK h q = 0) : Fr S h (nO h q k) := fun b hb => by
  have hbq : b ≠ q := fun z => hb (by rw [z]; exact hq)
  exact ⟨by rw [qK_nO, if_neg hbq], by unfold own; rw [qF_nO, if_neg hbq], fun _ => ⟨fun g => by rw [qF_nO, if_neg hbq], rfl, rfl, rfl⟩⟩
/-- anything at all happens to an object that is not yet -/
theorem Fr_new {S : Nat → Prop} {h : AH} {f q : Nat} {v : Value} (hq : qK h q = 0) : Fr S h (sF h f q v) := fun b hb => by
  have hbq : b ≠ q := fun z => hb (by rw [z]; exact hq)
  exact ⟨rfl, by unfold own; rw [qF_sF, if_neg (fun z => hbq z.2)], fun _ => ⟨fun g => by rw [qF_sF, if_neg (fun z => hbq z.2)], rfl, rfl, rfl⟩⟩
theorem HP.own {E : EV} {h : AH} {H : Heap} {a : Nat} {v : Value} (hp : HP E h H) : HP E (sF h 9999 a v) H := by
  obtain ⟨bk, mcn, p1, p2, p3⟩ := hp
  refine ⟨bk, mcn, fun b hb => ?_, p2, p3⟩
  obtain ⟨b1, b2, z1, z2, z3, z4, z5, z6, z7, z8⟩ := p1 b hb
  have hne : ∀ f, f < 9999 → qF (sF h 9999 a v) f b = qF h f b := fun f hf => by rw [qF_sF, if_neg (fun z => by omega)]
  have hnf : ∀ k, nfl k ≤ 31 := fun k => by unfold nfl; split <;> omega
  refine ⟨b1, b2, fun x => t_OB.to (z1 x) (fun k hk => ?_), z2, fun x => t_OB.to (z3 x) (fun k hk => ?_), z4, z5, fun x => ?_, fun x => ?_, z8⟩
  · have := hnf (qK h b - 1)
    have x' : qK h b ≤ 10 := x
    have hk' : k < nfl (qK h b - 1) := hk
    exact (hne (100 * (qK h b - 1) + k) (by omega)).symm
  · exact (hne (1000 + k) (by omega)).symm
  · obtain ⟨y, y1, y2⟩ := z6 x
    exact ⟨y, (hne _ (by decide)).trans y1, y2⟩
  · obtain ⟨y, y1, y2⟩ := z7 x
    exact ⟨y, (hne _ (by decide)).trans y1, y2⟩
theorem V_own {E : EV} {Γ : VG} {b : Nat} {h : AH} {pc : Nat} {lv : List (Nat × Value)} {st : List Value} (a : Nat) (v : Value) (k : V E Γ b (sF h 9999 a v) pc lv st) : V E Γ b h pc lv st :=
  fun ls H locs k9 n9 g1 g2 g3 g4 g5 => k ls H locs k9 n9 g1 g2.own g3 g4 g5
theorem OP.fr {la : Nat → Nat} {S : Nat → Prop} {h h' : AH} {a : Nat} {o : SO} (z : OP la h a o) (F : Fr S h h') (hs : ¬ S a) : OP la h' a o := by
  obtain ⟨z1, z2, z3, z4, z5⟩ := z
  have h0 : qK h a ≠ 0 := by omega
  exact ⟨F.K z1 (by decide), F.F h0 hs z2, F.F h0 hs z3, F.F h0 hs z4, F.F h0 hs z5⟩
/-- an operation after its kind and position were set -/
theorem OP.setp {la : Nat → Nat} {h : AH} {a k p x m : Nat} (z : OP la h a (k, p, x, m)) {p' : Nat} {v : Int32} (hv : v = ps k p') : OP la (sF h 603 a (.int v)) a (k, p', x, m) := by
  obtain ⟨z1, z2, z3, z4, z5⟩ := z
  refine ⟨z1, ?_, ?_, ?_, ?_⟩
  · rw [qF_sF, if_neg (fun z => by omega)]; exact z2
  · rw [qF_sF, if_neg (fun z => by omega)]; exact z3
  · rw [qF_sF, if_neg (fun z => by omega)]; exact z4
  · rw [qF_sF, if_pos ⟨rfl, rfl⟩, hv]
theorem OP.drop {la : Nat → Nat} {h : AH} {a k p x m : Nat} (z : OP la h a (k, p, x, m)) : OP la (sF (sF h 602 a (.int 110)) 603 a (.int (-1))) a (0, 0, x, m) := by
  obtain ⟨z1, z2, z3, z4, z5⟩ := z
  refine ⟨z1, ?_, ?_, ?_, ?_⟩
  · rw [qF_sF, if_neg (fun z => by omega), qF_sF, if_neg (fun z => by omega)]; exact z2
  · rw [qF_sF, if_neg (fun z => by omega), qF_sF, if_neg (fun z => by omega)]; exact z3
  · rw [qF_sF, if_neg (fun z => by omega), qF_sF, if_pos ⟨rfl, rfl⟩]; rfl
  · rw [qF_sF, if_pos ⟨rfl, rfl⟩]; rfl
