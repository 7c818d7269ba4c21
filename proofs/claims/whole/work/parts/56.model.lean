/-! THE MODEL'S STORE -/
/-- field and place: what stands there (a field that is no row: at place 0) -/
abbrev MS' : Type := Nat → Nat → Int32
def fu (F : MS') (i j : Nat) (x : Int32) : MS' := fun a b => if a = i ∧ b = j then x else F a b
theorem fu_s {F : MS'} {i j : Nat} {x : Int32} : fu F i j x i j = x := if_pos ⟨rfl, rfl⟩
theorem fu_i {F : MS'} {i j a b : Nat} {x : Int32} (h : a ≠ i) : fu F i j x a b = F a b := if_neg (fun z => h z.1)
theorem fu_j {F : MS'} {i j a b : Nat} {x : Int32} (h : b ≠ j) : fu F i j x a b = F a b := if_neg (fun z => h z.2)
theorem fu_e {F : MS'} {i j b : Nat} {x : Int32} : fu F i j x i b = if b = j then x else F i b := by
  unfold fu
  by_cases e : b = j
  · rw [if_pos ⟨rfl, e⟩, if_pos e]
  · rw [if_neg (fun z => e z.2), if_neg e]
def LN (i : Nat) : Nat := if i ≤ 905 then 1401 else if i ≤ 908 then 603 else if i = 909 then 3 else if i ≤ 918 then 2 else if i ≤ 922 then 400 else if i = 923 then 2 else if i = 925 then 200 else 201
def isA (i : Nat) : Prop := (901 ≤ i ∧ i ≤ 925) ∨ i = 929 ∨ i = 930
def isS (i : Nat) : Prop := i = 900 ∨ (926 ≤ i ∧ i ≤ 928)
def MP (h : AH) (q : Nat) (A : Nat → Nat) (F : MS') : Prop := qK h q = 10 ∧ own h q = .ref 10 ∧ (∀ i, isA i → qF h i q = .ref (A i) ∧ qK h (A i) = (if i = 917 ∨ i = 918 then 15 else 14) ∧ (qI h (A i)).length = LN i ∧ own h (A i) = .ref 10 ∧ ∀ j, j < LN i → (qI h (A i)).getD j 0 = F i j) ∧ (∀ i j, isA i → isA j → A i = A j → i = j) ∧ ∀ i, isS i → qF h i q = .int (F i 0)
def FM (h h' : AH) : Prop := Fr (fun a => own h a = .ref 10) h h'
theorem FM.refl (h : AH) : FM h h := Fr.refl _ h
theorem FM.seq {h h' h'' : AH} (a : FM h h') (b : FM h' h'') : FM h h'' := Fr.trans a b (fun _ _ z => z) (fun c hc z => by rw [← Fr.O a hc rfl]; exact z)
theorem MP.k {h : AH} {q : Nat} {A : Nat → Nat} {F : MS'} (z : MP h q A F) : qK h q = 10 := z.1
theorem MP.f {h : AH} {q : Nat} {A : Nat → Nat} {F : MS'} (z : MP h q A F) (i : Nat) (hi : isA i := by unfold isA; decide) : qF h i q = .ref (A i) := (z.2.2.1 i hi).1
theorem MP.s {h : AH} {q : Nat} {A : Nat → Nat} {F : MS'} (z : MP h q A F) (i : Nat) (hi : isS i := by unfold isS; decide) : qF h i q = .int (F i 0) := z.2.2.2.2 i hi
theorem MP.fr {h h' : AH} {q : Nat} {A : Nat → Nat} {F : MS'} {S : Nat → Prop} (z : MP h q A F) (G : Fr S h h') (hs : ∀ a, own h a = .ref 10 → ¬ S a) : MP h' q A F := by
  obtain ⟨z1, z2, z3, z4, z5⟩ := z
  refine ⟨G.K z1 (by decide), G.O (by omega) z2, fun i hi => ?_, z4, fun i hi => G.F (by omega) (hs q z2) (z5 i hi)⟩
  obtain ⟨y1, y2, y3, y4, y5⟩ := z3 i hi
  have k : qK h (A i) ≠ 0 := by rw [y2]; split <;> decide
  refine ⟨G.F (by omega) (hs q z2) y1, G.K y2 (by rw [← y2]; exact k), by rw [G.I k (hs _ y4)]; exact y3, G.O k y4, fun j hj => by rw [G.I k (hs _ y4)]; exact y5 j hj⟩
theorem MP.row {h : AH} {q : Nat} {A : Nat → Nat} {F : MS'} (z : MP h q A F) {i : Nat} (hi : isA i) {j : Nat} (hj : j < LN i) (x : Int32) : MP (sI h (A i) ((qI h (A i)).set j x)) q A (fu F i j x) ∧ FM h (sI h (A i) ((qI h (A i)).set j x)) := by
  obtain ⟨z1, z2, z3, z4, z5⟩ := z
  refine ⟨⟨z1, z2, fun a ha => ?_, z4, fun a ha => ?_⟩, Fr_sI (z3 i hi).2.2.2.1⟩
  · obtain ⟨y1, y2, y3, y4, y5⟩ := z3 a ha
    refine ⟨y1, y2, ?_, y4, fun b hb => ?_⟩
    · rw [qI_sI]
      split
      · next e => rw [List.length_set, ← e]; exact y3
      · exact y3
    · rw [qI_sI]
      by_cases e : A a = A i
      · have ea := z4 a i ha hi e
        subst ea
        rw [if_pos rfl, gDs (by omega), fu_e, y5 b hb]
      · rw [if_neg e, fu_i (fun u => e (by rw [u]))]; exact y5 b hb
  · rw [fu_i (fun u => by rw [u] at ha; unfold isS at ha; unfold isA at hi; omega)]
    exact z5 a ha
theorem MP.put {h : AH} {q : Nat} {A : Nat → Nat} {F : MS'} (z : MP h q A F) {i : Nat} (hi : isS i) (x : Int32) : MP (sF h i q (.int x)) q A (fu F i 0 x) ∧ FM h (sF h i q (.int x)) := by
  obtain ⟨z1, z2, z3, z4, z5⟩ := z
  have h9 : i < 9999 := by unfold isS at hi; omega
  refine ⟨⟨z1, by unfold own; rw [qF_sF, if_neg (fun u => by omega)]; exact z2, fun a ha => ?_, z4, fun a ha => ?_⟩, Fr_sF z2 h9⟩
  · obtain ⟨y1, y2, y3, y4, y5⟩ := z3 a ha
    have hne : a ≠ i := fun u => by rw [u] at ha; unfold isS at hi; unfold isA at ha; omega
    exact ⟨by rw [qF_sF, if_neg (fun u => hne u.1)]; exact y1, y2, y3, by unfold own; rw [qF_sF, if_neg (fun u => by omega)]; exact y4, fun j hj => by rw [fu_i hne]; exact y5 j hj⟩
  · by_cases e : a = i
    · subst e; rw [qF_sF, if_pos ⟨rfl, rfl⟩, fu_s]
    · rw [qF_sF, if_neg (fun u => e u.1), fu_i e]; exact z5 a ha
theorem LN_le (i : Nat) : LN i ≤ 1401 := by
  unfold LN
  (repeat' split) <;> omega
section VM
variable {E : EV} {Γ : VG} {own' : String} {cc : ByteArray} {nL b : Nat} {h : AH} {pc : Nat} {lv : List (Nat × Value)} {st : List Value}
theorem M_ald (X : CX E Γ own' cc nL) {q i j : Nat} {A : Nat → Nat} {F : MS'} (mp : MP h q A F) (hi : isA i ∧ ¬ (i = 917 ∨ i = 918)) (hj : j < LN i) (d : decode cc pc = .ok (.iaload, 1)) (k : V E Γ b h (pc + 1) lv (.int (F i j) :: st)) : V E Γ b h pc lv (.int (nI j) :: .ref (A i) :: st) := by
  obtain ⟨y1, y2, y3, y4, y5⟩ := mp.2.2.1 i hi.1
  rw [if_neg hi.2] at y2
  have hl := LN_le i
  exact V_iald X (Or.inr y2) (vp_in_nI (by omega) (by omega)) (by rw [nI_clamp (by omega)]; exact y5 j hj) d k
theorem M_zld (X : CX E Γ own' cc nL) {q i j : Nat} {A : Nat → Nat} {F : MS'} (mp : MP h q A F) (hi : i = 917 ∨ i = 918) (hj : j < 2) (d : decode cc pc = .ok (.baload, 1)) (k : V E Γ b h (pc + 1) lv (.int (F i j) :: st)) : V E Γ b h pc lv (.int (nI j) :: .ref (A i) :: st) := by
  have hA : isA i := by unfold isA; omega
  have hl : LN i = 2 := by rcases hi with rfl | rfl <;> rfl
  obtain ⟨y1, y2, y3, y4, y5⟩ := mp.2.2.1 i hA
  rw [if_pos hi] at y2
  exact V_zald X y2 (vp_in_nI (by omega) (by omega)) (by rw [nI_clamp (by omega)]; exact y5 j (by omega)) d k
theorem M_ast (X : CX E Γ own' cc nL) {q i j : Nat} {A : Nat → Nat} {F : MS'} {x : Int32} (mp : MP h q A F) (hi : isA i ∧ ¬ (i = 917 ∨ i = 918)) (hj : j < LN i) (d : decode cc pc = .ok (.iastore, 1)) (k : ∀ h', MP h' q A (fu F i j x) → FM h h' → V E Γ b h' (pc + 1) lv st) : V E Γ b h pc lv (.int x :: .int (nI j) :: .ref (A i) :: st) := by
  obtain ⟨y1, y2, y3, y4, y5⟩ := mp.2.2.1 i hi.1
  rw [if_neg hi.2] at y2
  have hl := LN_le i
  obtain ⟨m1, m2⟩ := mp.row hi.1 hj x
  refine V_iast X (Or.inr y2) (vp_in_nI (by omega) (by omega)) d ?_
  rw [nI_clamp (by omega)]
  exact k _ m1 m2
theorem M_zst (X : CX E Γ own' cc nL) {q i j : Nat} {A : Nat → Nat} {F : MS'} {x : Int32} (mp : MP h q A F) (hi : i = 917 ∨ i = 918) (hx : x = 0 ∨ x = 1) (hj : j < 2) (d : decode cc pc = .ok (.bastore, 1)) (k : ∀ h', MP h' q A (fu F i j x) → FM h h' → V E Γ b h' (pc + 1) lv st) : V E Γ b h pc lv (.int x :: .int (nI j) :: .ref (A i) :: st) := by
  have hA : isA i := by unfold isA; omega
  have hl : LN i = 2 := by rcases hi with rfl | rfl <;> rfl
  obtain ⟨y1, y2, y3, y4, y5⟩ := mp.2.2.1 i hA
  rw [if_pos hi] at y2
  obtain ⟨m1, m2⟩ := mp.row hA (by omega : j < LN i) x
  refine V_zast X y2 hx (vp_in_nI (by omega) (by omega)) d ?_
  rw [nI_clamp (by omega)]
  exact k _ m1 m2
theorem M_put (X : CX E Γ own' cc nL) {q i index : Nat} {dcl : String} {A : Nat → Nat} {F : MS'} {x : Int32} (mp : MP h q A F) (hi : isS i) (L : FL i own' index .int false dcl) (d : decode cc pc = .ok (.putfield index, 3)) (k : ∀ h', MP h' q A (fu F i 0 x) → FM h h' → V E Γ b h' (pc + 3) lv st) : V E Γ b h pc lv (.int x :: .ref q :: st) := by
  obtain ⟨m1, m2⟩ := mp.put hi x
  exact V_put X L d (by rw [mp.k]; unfold isS at hi; omega) ⟨rfl, rfl⟩ (k _ m1 m2)
end VM
