/-! CHANGES -/
/-- the object with its two rows -/
def CG (h : AH) (q rw fa : Nat) : Prop := qK h q = 2 ∧ qF h 100 q = .ref rw ∧ qF h 101 q = .ref fa ∧ qK h rw = 13 ∧ qK h fa = 13 ∧ (qI h rw).length = 201 ∧ (qI h fa).length = 803 ∧ rw ≠ fa
theorem CG.sI1 {h : AH} {q rw fa : Nat} (z : CG h q rw fa) {xs : List Int32} (hx : xs.length = 201) : CG (sI h rw xs) q rw fa := ⟨z.1, z.2.1, z.2.2.1, z.2.2.2.1, z.2.2.2.2.1, by rw [qI_sI, if_pos rfl]; exact hx, by rw [qI_sI, if_neg (fun y => z.2.2.2.2.2.2.2 y.symm)]; exact z.2.2.2.2.2.2.1, z.2.2.2.2.2.2.2⟩
theorem CG.sI2 {h : AH} {q rw fa : Nat} (z : CG h q rw fa) {xs : List Int32} (hx : xs.length = 803) : CG (sI h fa xs) q rw fa := ⟨z.1, z.2.1, z.2.2.1, z.2.2.2.1, z.2.2.2.2.1, by rw [qI_sI, if_neg z.2.2.2.2.2.2.2]; exact z.2.2.2.2.2.1, by rw [qI_sI, if_pos rfl]; exact hx, z.2.2.2.2.2.2.2⟩
theorem TX.sI {la : Nat → Nat} {h : AH} {t tl c a : Nat} {xs : List Nat} {v : List Int32} (z : TX la h t tl xs c) : TX la (sI h a v) t tl xs c := z
theorem LT.sI {la : Nat → Nat} {tb : Nat → Nat × Nat} {h : AH} {x a : Nat} {v : List Int32} (z : LT la tb h x) : LT la tb (sI h a v) x := z
theorem gDs {l : List Int32} {i j : Nat} {v : Int32} (hi : i < l.length) : (l.set i v).getD j 0 = if j = i then v else l.getD j 0 := by
  rw [List.getD_eq_getElem?_getD, List.getD_eq_getElem?_getD, List.getElem?_set]
  by_cases e : i = j
  · subst e; rw [if_pos rfl, if_pos rfl, if_pos hi]; rfl
  · rw [if_neg e, if_neg (fun z => e z.symm)]

