/-! THE MODEL'S OPERATIONS -/
/-- a place for an operation -/
def OS (F : MS') (i : Nat) : Int32 × Int32 × Int32 × Int32 × Int32 := (F 901 i, F 902 i, F 903 i, F 904 i, F 905 i)
/-- all but the operations is kept -/
def KO5 (F F' : MS') : Prop := ∀ i j, ¬ (901 ≤ i ∧ i ≤ 905) → F' i j = F i j
theorem KO5.refl (F : MS') : KO5 F F := fun _ _ _ => rfl
theorem KO5.seq {F F' F'' : MS'} (a : KO5 F F') (b : KO5 F' F'') : KO5 F F'' := fun i j h => (b i j h).trans (a i j h)
theorem m_copies {E : EV} {h : AH} {q : Nat} {A : Nat → Nat} {F : MS'} (mp : MP h q A F) {i j : Nat} (hi : i < 1401) (hj : j < 1401) : Ct E yX9_copies cX9_copies 3 none 1 0 [.ref q, .int (nI i), .int (nI j)] h (fun v h1 => v = none ∧ ∃ F', MP h1 q A F' ∧ FM h h1 ∧ KO5 F F' ∧ ∀ k, OS F' k = if k = j then OS F i else OS F k) noX := by
  refine Ct_of RX9 (by decide +kernel) rfl (Nat.le_of_ble_eq_true rfl) (fun Γ X nt Q hin => ?_)
  have gm := FM.refl h
  refine V_aload_n (pc := 0) X 0 dX9_copies_0 rfl ?_
  refine V_get (pc := 1) X fl_X9_7 dX9_copies_1 mp.k (mp.f 901) ?_
  refine V_iload_n (pc := 4) X 2 dX9_copies_4 rfl ?_
  refine V_aload_n (pc := 5) X 0 dX9_copies_5 rfl ?_
  refine V_get (pc := 6) X fl_X9_7 dX9_copies_6 mp.k (mp.f 901) ?_
  refine V_iload_n (pc := 9) X 1 dX9_copies_9 rfl ?_
  refine M_ald (pc := 10) X mp ⟨by unfold isA; decide, by decide⟩ (by show _ < 1401; omega) dX9_copies_10 ?_
  refine M_ast (pc := 11) X mp ⟨by unfold isA; decide, by decide⟩ (by show _ < 1401; omega) dX9_copies_11 (fun h11 mp11 fm11 => ?_)
  have gm11 := gm.seq fm11
  refine V_aload_n (pc := 12) X 0 dX9_copies_12 rfl ?_
  refine V_get (pc := 13) X fl_X9_13 dX9_copies_13 mp11.k (mp11.f 902) ?_
  refine V_iload_n (pc := 16) X 2 dX9_copies_16 rfl ?_
  refine V_aload_n (pc := 17) X 0 dX9_copies_17 rfl ?_
  refine V_get (pc := 18) X fl_X9_13 dX9_copies_18 mp11.k (mp11.f 902) ?_
  refine V_iload_n (pc := 21) X 1 dX9_copies_21 rfl ?_
  refine M_ald (pc := 22) X mp11 ⟨by unfold isA; decide, by decide⟩ (by show _ < 1401; omega) dX9_copies_22 ?_
  refine M_ast (pc := 23) X mp11 ⟨by unfold isA; decide, by decide⟩ (by show _ < 1401; omega) dX9_copies_23 (fun h23 mp23 fm23 => ?_)
  have gm23 := gm11.seq fm23
  refine V_aload_n (pc := 24) X 0 dX9_copies_24 rfl ?_
  refine V_get (pc := 25) X fl_X9_16 dX9_copies_25 mp23.k (mp23.f 903) ?_
  refine V_iload_n (pc := 28) X 2 dX9_copies_28 rfl ?_
  refine V_aload_n (pc := 29) X 0 dX9_copies_29 rfl ?_
  refine V_get (pc := 30) X fl_X9_16 dX9_copies_30 mp23.k (mp23.f 903) ?_
  refine V_iload_n (pc := 33) X 1 dX9_copies_33 rfl ?_
  refine M_ald (pc := 34) X mp23 ⟨by unfold isA; decide, by decide⟩ (by show _ < 1401; omega) dX9_copies_34 ?_
  refine M_ast (pc := 35) X mp23 ⟨by unfold isA; decide, by decide⟩ (by show _ < 1401; omega) dX9_copies_35 (fun h35 mp35 fm35 => ?_)
  have gm35 := gm23.seq fm35
  refine V_aload_n (pc := 36) X 0 dX9_copies_36 rfl ?_
  refine V_get (pc := 37) X fl_X9_19 dX9_copies_37 mp35.k (mp35.f 904) ?_
  refine V_iload_n (pc := 40) X 2 dX9_copies_40 rfl ?_
  refine V_aload_n (pc := 41) X 0 dX9_copies_41 rfl ?_
  refine V_get (pc := 42) X fl_X9_19 dX9_copies_42 mp35.k (mp35.f 904) ?_
  refine V_iload_n (pc := 45) X 1 dX9_copies_45 rfl ?_
  refine M_ald (pc := 46) X mp35 ⟨by unfold isA; decide, by decide⟩ (by show _ < 1401; omega) dX9_copies_46 ?_
  refine M_ast (pc := 47) X mp35 ⟨by unfold isA; decide, by decide⟩ (by show _ < 1401; omega) dX9_copies_47 (fun h47 mp47 fm47 => ?_)
  have gm47 := gm35.seq fm47
  refine V_aload_n (pc := 48) X 0 dX9_copies_48 rfl ?_
  refine V_get (pc := 49) X fl_X9_22 dX9_copies_49 mp47.k (mp47.f 905) ?_
  refine V_iload_n (pc := 52) X 2 dX9_copies_52 rfl ?_
  refine V_aload_n (pc := 53) X 0 dX9_copies_53 rfl ?_
  refine V_get (pc := 54) X fl_X9_22 dX9_copies_54 mp47.k (mp47.f 905) ?_
  refine V_iload_n (pc := 57) X 1 dX9_copies_57 rfl ?_
  refine M_ald (pc := 58) X mp47 ⟨by unfold isA; decide, by decide⟩ (by show _ < 1401; omega) dX9_copies_58 ?_
  refine M_ast (pc := 59) X mp47 ⟨by unfold isA; decide, by decide⟩ (by show _ < 1401; omega) dX9_copies_59 (fun h59 mp59 fm59 => ?_)
  have gm59 := gm47.seq fm59
  refine V_vret (pc := 60) X Q rfl dX9_copies_60 ?_
  refine ⟨rfl, _, mp59, gm59, fun a b hab => ?_, fun k => ?_⟩
  · rw [fu_i (by omega), fu_i (by omega), fu_i (by omega), fu_i (by omega), fu_i (by omega)]
  · unfold OS
    by_cases e : k = j
    · subst e
      rw [if_pos rfl]
      by_cases e2 : i = k
      · subst e2
        simp [fu]
      · simp [fu, e2]
    · rw [if_neg e]
      simp [fu, e]
