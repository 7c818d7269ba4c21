/-! THE LAW'S OWN METHODS, over any contract of the class's method -/
theorem u867 : Cond.classLink "CoupletLaw" 13 "java/lang/IndexOutOfBoundsException" ∈ WS := wsm 867 (by decide +kernel) (by decide +kernel)
theorem u883 : Cond.classLink "CoupletLaw" 15 "java/lang/IllegalArgumentException" ∈ WS := wsm 883 (by decide +kernel) (by decide +kernel)
theorem u884 : Cond.classLink "CoupletLaw" 17 "java/lang/IllegalStateException" ∈ WS := wsm 884 (by decide +kernel) (by decide +kernel)
theorem u993 : Cond.classLink "CoupletLaw" 31 "java/util/NoSuchElementException" ∈ WS := wsm 993 (by decide +kernel) (by decide +kernel)
theorem u1193 : Cond.classLink "CoupletLaw" 109 "java/lang/ArithmeticException" ∈ WS := wsm 1193 (by decide +kernel) (by decide +kernel)
theorem l_insert {E : EV} {h : AH} {q o b : Nat} {a1 a2 a3 : Int32} {Ret0 : Option Value → AH → Prop} {Thr0 : String → AH → Prop} (hq : qK h q = 9) (M : Ct E yX8_insert cX8_insert 5 (some .int) 12 b [.ref q, .int a1, .int a2, .int a3] h Ret0 Thr0) (hv : ∀ v h1, Ret0 v h1 → (∃ u : Int32, v = some (.int u)) ∧ qK h1 o = 16) (hthr : ∀ N h1, Thr0 N h1 → N = "java/lang/IndexOutOfBoundsException" ∨ N = "java/lang/IllegalArgumentException" ∨ N = "java/lang/IllegalStateException") : CtW E yL_insert cL_insert 6 (some .int) [(0, 12, 15, 13), (0, 12, 19, 15), (0, 12, 23, 17)] 13 b [.ref q, .int a1, .int a2, .int a3, .ref o] h (fun v h1 => ∃ c : Nat, v = some (.int (nI c)) ∧ ((c = 0 ∧ ∃ (u : Int32) (h0 : AH), Ret0 (some (.int u)) h0 ∧ h1 = sF h0 1600 o (.long u.toInt64)) ∨ (c = 1 ∧ Thr0 "java/lang/IndexOutOfBoundsException" h1) ∨ (c = 2 ∧ Thr0 "java/lang/IllegalArgumentException" h1) ∨ (c = 3 ∧ Thr0 "java/lang/IllegalStateException" h1))) := by
  refine CtW_of RL (by decide +kernel) rfl (Nat.le_of_ble_eq_true rfl) (fun Γ X ht nx Q => ?_)
  refine V_aload (pc := 0) X 4 dL_insert_0 rfl ?_
  refine V_iconst (pc := 2) (v := 0) X dL_insert_2 (by decide) ?_
  refine V_aload_n (pc := 3) X 0 dL_insert_3 rfl ?_
  refine V_iload_n (pc := 4) X 1 dL_insert_4 rfl ?_
  refine V_iload_n (pc := 5) X 2 dL_insert_5 rfl ?_
  refine V_iload_n (pc := 6) X 3 dL_insert_6 rfl ?_
  refine V_callV (pc := 7) X clk8 (by decide) hq _ M cw_L_7 (Q.room (by decide) (by decide)) rfl (Nat.le_of_ble_eq_true rfl) rfl (Nat.le_refl _) dL_insert_7 (fun N h1 y => ?_) ?_
  · rcases hthr N h1 y with rfl | rfl | rfl
    · refine VX_h X nx ht [] (0, 12, 15, 13) [(0, 12, 19, 15), (0, 12, 23, 17)] rfl (fun z hz => ?_) ⟨by decide, by decide⟩ (by decide) u867 (wnm 203 (by decide +kernel) (by decide +kernel)) (fun qe => ?_)
      · exact absurd hz List.not_mem_nil
      · refine V_astore (pc := 15) X [(5, .ref _), (0, .ref _), (1, .int _), (2, .int _), (3, .int _), (4, .ref _)] dL_insert_15 (by decide) rfl ?_
        refine V_iconst (pc := 17) (v := 1) X dL_insert_17 (by decide) ?_
        refine V_iret (pc := 18) X Q rfl rfl dL_insert_18 ?_
        exact ⟨1, rfl, Or.inr (Or.inl ⟨rfl, y⟩)⟩
    · refine VX_h X nx ht [(0, 12, 15, 13)] (0, 12, 19, 15) [(0, 12, 23, 17)] rfl (fun z hz => ?_) ⟨by decide, by decide⟩ (by decide) u883 (wnm 615 (by decide +kernel) (by decide +kernel)) (fun qe => ?_)
      · simp only [List.mem_cons, List.not_mem_nil, or_false] at hz
        subst hz
        exact ⟨by decide, _, u867, by decide⟩
      · refine V_astore (pc := 19) X [(5, .ref _), (0, .ref _), (1, .int _), (2, .int _), (3, .int _), (4, .ref _)] dL_insert_19 (by decide) rfl ?_
        refine V_iconst (pc := 21) (v := 2) X dL_insert_21 (by decide) ?_
        refine V_iret (pc := 22) X Q rfl rfl dL_insert_22 ?_
        exact ⟨2, rfl, Or.inr (Or.inr (Or.inl ⟨rfl, y⟩))⟩
    · refine VX_h X nx ht [(0, 12, 15, 13), (0, 12, 19, 15)] (0, 12, 23, 17) [] rfl (fun z hz => ?_) ⟨by decide, by decide⟩ (by decide) u884 (wnm 903 (by decide +kernel) (by decide +kernel)) (fun qe => ?_)
      · simp only [List.mem_cons, List.not_mem_nil, or_false] at hz
        rcases hz with rfl | rfl
        · exact ⟨by decide, _, u867, by decide⟩
        · exact ⟨by decide, _, u883, by decide⟩
      · refine V_astore (pc := 23) X [(5, .ref _), (0, .ref _), (1, .int _), (2, .int _), (3, .int _), (4, .ref _)] dL_insert_23 (by decide) rfl ?_
        refine V_iconst (pc := 25) (v := 3) X dL_insert_25 (by decide) ?_
        refine V_iret (pc := 26) X Q rfl rfl dL_insert_26 ?_
        exact ⟨3, rfl, Or.inr (Or.inr (Or.inr (⟨rfl, y⟩)))⟩
  · rintro v1 h1 r
    obtain ⟨⟨u, rfl⟩, ko⟩ := hv v1 h1 r
    simp only [Option.toList_some, List.cons_append, List.nil_append]
    refine V_i2l (pc := 10) X dL_insert_10 ?_
    refine V_last (pc := 11) X ko dL_insert_11 ?_
    refine V_goto (pc := 12) X 27 dL_insert_12 (by decide) ?_
    refine V_iconst (pc := 27) (v := 0) X dL_insert_27 (by decide) ?_
    refine V_iret (pc := 28) X Q rfl rfl dL_insert_28 ?_
    exact ⟨0, rfl, Or.inl ⟨rfl, u, h1, r, rfl⟩⟩
theorem l_delete {E : EV} {h : AH} {q o b : Nat} {a1 a2 : Int32} {Ret0 : Option Value → AH → Prop} {Thr0 : String → AH → Prop} (hq : qK h q = 9) (M : Ct E yX8_delete cX8_delete 4 (some .char) 12 b [.ref q, .int a1, .int a2] h Ret0 Thr0) (hv : ∀ v h1, Ret0 v h1 → (∃ u : Int32, v = some (.int u)) ∧ qK h1 o = 16) (hthr : ∀ N h1, Thr0 N h1 → N = "java/lang/IndexOutOfBoundsException" ∨ N = "java/lang/IllegalArgumentException" ∨ N = "java/lang/IllegalStateException") : CtW E yL_delete cL_delete 5 (some .int) [(0, 10, 13, 13), (0, 10, 17, 15), (0, 10, 21, 17)] 13 b [.ref q, .int a1, .int a2, .ref o] h (fun v h1 => ∃ c : Nat, v = some (.int (nI c)) ∧ ((c = 0 ∧ ∃ (u : Int32) (h0 : AH), Ret0 (some (.int u)) h0 ∧ h1 = sF h0 1600 o (.long u.toInt64)) ∨ (c = 1 ∧ Thr0 "java/lang/IndexOutOfBoundsException" h1) ∨ (c = 2 ∧ Thr0 "java/lang/IllegalArgumentException" h1) ∨ (c = 3 ∧ Thr0 "java/lang/IllegalStateException" h1))) := by
  refine CtW_of RL (by decide +kernel) rfl (Nat.le_of_ble_eq_true rfl) (fun Γ X ht nx Q => ?_)
  refine V_aload_n (pc := 0) X 3 dL_delete_0 rfl ?_
  refine V_iconst (pc := 1) (v := 0) X dL_delete_1 (by decide) ?_
  refine V_aload_n (pc := 2) X 0 dL_delete_2 rfl ?_
  refine V_iload_n (pc := 3) X 1 dL_delete_3 rfl ?_
  refine V_iload_n (pc := 4) X 2 dL_delete_4 rfl ?_
  refine V_callV (pc := 5) X clk8 (by decide) hq _ M cw_L_19 (Q.room (by decide) (by decide)) rfl (Nat.le_of_ble_eq_true rfl) rfl (Nat.le_refl _) dL_delete_5 (fun N h1 y => ?_) ?_
  · rcases hthr N h1 y with rfl | rfl | rfl
    · refine VX_h X nx ht [] (0, 10, 13, 13) [(0, 10, 17, 15), (0, 10, 21, 17)] rfl (fun z hz => ?_) ⟨by decide, by decide⟩ (by decide) u867 (wnm 203 (by decide +kernel) (by decide +kernel)) (fun qe => ?_)
      · exact absurd hz List.not_mem_nil
      · refine V_astore (pc := 13) X [(4, .ref _), (0, .ref _), (1, .int _), (2, .int _), (3, .ref _)] dL_delete_13 (by decide) rfl ?_
        refine V_iconst (pc := 15) (v := 1) X dL_delete_15 (by decide) ?_
        refine V_iret (pc := 16) X Q rfl rfl dL_delete_16 ?_
        exact ⟨1, rfl, Or.inr (Or.inl ⟨rfl, y⟩)⟩
    · refine VX_h X nx ht [(0, 10, 13, 13)] (0, 10, 17, 15) [(0, 10, 21, 17)] rfl (fun z hz => ?_) ⟨by decide, by decide⟩ (by decide) u883 (wnm 615 (by decide +kernel) (by decide +kernel)) (fun qe => ?_)
      · simp only [List.mem_cons, List.not_mem_nil, or_false] at hz
        subst hz
        exact ⟨by decide, _, u867, by decide⟩
      · refine V_astore (pc := 17) X [(4, .ref _), (0, .ref _), (1, .int _), (2, .int _), (3, .ref _)] dL_delete_17 (by decide) rfl ?_
        refine V_iconst (pc := 19) (v := 2) X dL_delete_19 (by decide) ?_
        refine V_iret (pc := 20) X Q rfl rfl dL_delete_20 ?_
        exact ⟨2, rfl, Or.inr (Or.inr (Or.inl ⟨rfl, y⟩))⟩
    · refine VX_h X nx ht [(0, 10, 13, 13), (0, 10, 17, 15)] (0, 10, 21, 17) [] rfl (fun z hz => ?_) ⟨by decide, by decide⟩ (by decide) u884 (wnm 903 (by decide +kernel) (by decide +kernel)) (fun qe => ?_)
      · simp only [List.mem_cons, List.not_mem_nil, or_false] at hz
        rcases hz with rfl | rfl
        · exact ⟨by decide, _, u867, by decide⟩
        · exact ⟨by decide, _, u883, by decide⟩
      · refine V_astore (pc := 21) X [(4, .ref _), (0, .ref _), (1, .int _), (2, .int _), (3, .ref _)] dL_delete_21 (by decide) rfl ?_
        refine V_iconst (pc := 23) (v := 3) X dL_delete_23 (by decide) ?_
        refine V_iret (pc := 24) X Q rfl rfl dL_delete_24 ?_
        exact ⟨3, rfl, Or.inr (Or.inr (Or.inr (⟨rfl, y⟩)))⟩
  · rintro v1 h1 r
    obtain ⟨⟨u, rfl⟩, ko⟩ := hv v1 h1 r
    simp only [Option.toList_some, List.cons_append, List.nil_append]
    refine V_i2l (pc := 8) X dL_delete_8 ?_
    refine V_last (pc := 9) X ko dL_delete_9 ?_
    refine V_goto (pc := 10) X 25 dL_delete_10 (by decide) ?_
    refine V_iconst (pc := 25) (v := 0) X dL_delete_25 (by decide) ?_
    refine V_iret (pc := 26) X Q rfl rfl dL_delete_26 ?_
    exact ⟨0, rfl, Or.inl ⟨rfl, u, h1, r, rfl⟩⟩
theorem l_type {E : EV} {h : AH} {q o b : Nat} {a1 a2 : Int32} {Ret0 : Option Value → AH → Prop} {Thr0 : String → AH → Prop} (hq : qK h q = 9) (M : Ct E yX8_type cX8_type 4 (some .int) 12 b [.ref q, .int a1, .int a2] h Ret0 Thr0) (hv : ∀ v h1, Ret0 v h1 → (∃ u : Int32, v = some (.int u)) ∧ qK h1 o = 16) (hthr : ∀ N h1, Thr0 N h1 → N = "java/lang/IndexOutOfBoundsException" ∨ N = "java/lang/IllegalArgumentException" ∨ N = "java/lang/IllegalStateException") : CtW E yL_type cL_type 5 (some .int) [(0, 10, 13, 13), (0, 10, 17, 15), (0, 10, 21, 17)] 13 b [.ref q, .int a1, .int a2, .ref o] h (fun v h1 => ∃ c : Nat, v = some (.int (nI c)) ∧ ((c = 0 ∧ ∃ (u : Int32) (h0 : AH), Ret0 (some (.int u)) h0 ∧ h1 = sF h0 1600 o (.long u.toInt64)) ∨ (c = 1 ∧ Thr0 "java/lang/IndexOutOfBoundsException" h1) ∨ (c = 2 ∧ Thr0 "java/lang/IllegalArgumentException" h1) ∨ (c = 3 ∧ Thr0 "java/lang/IllegalStateException" h1))) := by
  refine CtW_of RL (by decide +kernel) rfl (Nat.le_of_ble_eq_true rfl) (fun Γ X ht nx Q => ?_)
  refine V_aload_n (pc := 0) X 3 dL_type_0 rfl ?_
  refine V_iconst (pc := 1) (v := 0) X dL_type_1 (by decide) ?_
  refine V_aload_n (pc := 2) X 0 dL_type_2 rfl ?_
  refine V_iload_n (pc := 3) X 1 dL_type_3 rfl ?_
  refine V_iload_n (pc := 4) X 2 dL_type_4 rfl ?_
  refine V_callV (pc := 5) X clk8 (by decide) hq _ M cw_L_23 (Q.room (by decide) (by decide)) rfl (Nat.le_of_ble_eq_true rfl) rfl (Nat.le_refl _) dL_type_5 (fun N h1 y => ?_) ?_
  · rcases hthr N h1 y with rfl | rfl | rfl
    · refine VX_h X nx ht [] (0, 10, 13, 13) [(0, 10, 17, 15), (0, 10, 21, 17)] rfl (fun z hz => ?_) ⟨by decide, by decide⟩ (by decide) u867 (wnm 203 (by decide +kernel) (by decide +kernel)) (fun qe => ?_)
      · exact absurd hz List.not_mem_nil
      · refine V_astore (pc := 13) X [(4, .ref _), (0, .ref _), (1, .int _), (2, .int _), (3, .ref _)] dL_type_13 (by decide) rfl ?_
        refine V_iconst (pc := 15) (v := 1) X dL_type_15 (by decide) ?_
        refine V_iret (pc := 16) X Q rfl rfl dL_type_16 ?_
        exact ⟨1, rfl, Or.inr (Or.inl ⟨rfl, y⟩)⟩
    · refine VX_h X nx ht [(0, 10, 13, 13)] (0, 10, 17, 15) [(0, 10, 21, 17)] rfl (fun z hz => ?_) ⟨by decide, by decide⟩ (by decide) u883 (wnm 615 (by decide +kernel) (by decide +kernel)) (fun qe => ?_)
      · simp only [List.mem_cons, List.not_mem_nil, or_false] at hz
        subst hz
        exact ⟨by decide, _, u867, by decide⟩
      · refine V_astore (pc := 17) X [(4, .ref _), (0, .ref _), (1, .int _), (2, .int _), (3, .ref _)] dL_type_17 (by decide) rfl ?_
        refine V_iconst (pc := 19) (v := 2) X dL_type_19 (by decide) ?_
        refine V_iret (pc := 20) X Q rfl rfl dL_type_20 ?_
        exact ⟨2, rfl, Or.inr (Or.inr (Or.inl ⟨rfl, y⟩))⟩
    · refine VX_h X nx ht [(0, 10, 13, 13), (0, 10, 17, 15)] (0, 10, 21, 17) [] rfl (fun z hz => ?_) ⟨by decide, by decide⟩ (by decide) u884 (wnm 903 (by decide +kernel) (by decide +kernel)) (fun qe => ?_)
      · simp only [List.mem_cons, List.not_mem_nil, or_false] at hz
        rcases hz with rfl | rfl
        · exact ⟨by decide, _, u867, by decide⟩
        · exact ⟨by decide, _, u883, by decide⟩
      · refine V_astore (pc := 21) X [(4, .ref _), (0, .ref _), (1, .int _), (2, .int _), (3, .ref _)] dL_type_21 (by decide) rfl ?_
        refine V_iconst (pc := 23) (v := 3) X dL_type_23 (by decide) ?_
        refine V_iret (pc := 24) X Q rfl rfl dL_type_24 ?_
        exact ⟨3, rfl, Or.inr (Or.inr (Or.inr (⟨rfl, y⟩)))⟩
  · rintro v1 h1 r
    obtain ⟨⟨u, rfl⟩, ko⟩ := hv v1 h1 r
    simp only [Option.toList_some, List.cons_append, List.nil_append]
    refine V_i2l (pc := 8) X dL_type_8 ?_
    refine V_last (pc := 9) X ko dL_type_9 ?_
    refine V_goto (pc := 10) X 25 dL_type_10 (by decide) ?_
    refine V_iconst (pc := 25) (v := 0) X dL_type_25 (by decide) ?_
    refine V_iret (pc := 26) X Q rfl rfl dL_type_26 ?_
    exact ⟨0, rfl, Or.inl ⟨rfl, u, h1, r, rfl⟩⟩
theorem l_erase {E : EV} {h : AH} {q o b : Nat} {a1 : Int32} {Ret0 : Option Value → AH → Prop} {Thr0 : String → AH → Prop} (hq : qK h q = 9) (M : Ct E yX8_erase cX8_erase 4 (some .char) 12 b [.ref q, .int a1] h Ret0 Thr0) (hv : ∀ v h1, Ret0 v h1 → (∃ u : Int32, v = some (.int u)) ∧ qK h1 o = 16) (hthr : ∀ N h1, Thr0 N h1 → N = "java/lang/IndexOutOfBoundsException" ∨ N = "java/util/NoSuchElementException" ∨ N = "java/lang/IllegalStateException") : CtW E yL_erase cL_erase 4 (some .int) [(0, 9, 12, 13), (0, 9, 15, 31), (0, 9, 18, 17)] 13 b [.ref q, .int a1, .ref o] h (fun v h1 => ∃ c : Nat, v = some (.int (nI c)) ∧ ((c = 0 ∧ ∃ (u : Int32) (h0 : AH), Ret0 (some (.int u)) h0 ∧ h1 = sF h0 1600 o (.long u.toInt64)) ∨ (c = 1 ∧ Thr0 "java/lang/IndexOutOfBoundsException" h1) ∨ (c = 2 ∧ Thr0 "java/util/NoSuchElementException" h1) ∨ (c = 3 ∧ Thr0 "java/lang/IllegalStateException" h1))) := by
  refine CtW_of RL (by decide +kernel) rfl (Nat.le_of_ble_eq_true rfl) (fun Γ X ht nx Q => ?_)
  refine V_aload_n (pc := 0) X 2 dL_erase_0 rfl ?_
  refine V_iconst (pc := 1) (v := 0) X dL_erase_1 (by decide) ?_
  refine V_aload_n (pc := 2) X 0 dL_erase_2 rfl ?_
  refine V_iload_n (pc := 3) X 1 dL_erase_3 rfl ?_
  refine V_callV (pc := 4) X clk8 (by decide) hq _ M cw_L_27 (Q.room (by decide) (by decide)) rfl (Nat.le_of_ble_eq_true rfl) rfl (Nat.le_refl _) dL_erase_4 (fun N h1 y => ?_) ?_
  · rcases hthr N h1 y with rfl | rfl | rfl
    · refine VX_h X nx ht [] (0, 9, 12, 13) [(0, 9, 15, 31), (0, 9, 18, 17)] rfl (fun z hz => ?_) ⟨by decide, by decide⟩ (by decide) u867 (wnm 203 (by decide +kernel) (by decide +kernel)) (fun qe => ?_)
      · exact absurd hz List.not_mem_nil
      · refine V_astore_n (pc := 12) X [(3, .ref _), (0, .ref _), (1, .int _), (2, .ref _)] dL_erase_12 rfl (by decide) rfl ?_
        refine V_iconst (pc := 13) (v := 1) X dL_erase_13 (by decide) ?_
        refine V_iret (pc := 14) X Q rfl rfl dL_erase_14 ?_
        exact ⟨1, rfl, Or.inr (Or.inl ⟨rfl, y⟩)⟩
    · refine VX_h X nx ht [(0, 9, 12, 13)] (0, 9, 15, 31) [(0, 9, 18, 17)] rfl (fun z hz => ?_) ⟨by decide, by decide⟩ (by decide) u993 (wnm 274 (by decide +kernel) (by decide +kernel)) (fun qe => ?_)
      · simp only [List.mem_cons, List.not_mem_nil, or_false] at hz
        subst hz
        exact ⟨by decide, _, u867, by decide⟩
      · refine V_astore_n (pc := 15) X [(3, .ref _), (0, .ref _), (1, .int _), (2, .ref _)] dL_erase_15 rfl (by decide) rfl ?_
        refine V_iconst (pc := 16) (v := 2) X dL_erase_16 (by decide) ?_
        refine V_iret (pc := 17) X Q rfl rfl dL_erase_17 ?_
        exact ⟨2, rfl, Or.inr (Or.inr (Or.inl ⟨rfl, y⟩))⟩
    · refine VX_h X nx ht [(0, 9, 12, 13), (0, 9, 15, 31)] (0, 9, 18, 17) [] rfl (fun z hz => ?_) ⟨by decide, by decide⟩ (by decide) u884 (wnm 903 (by decide +kernel) (by decide +kernel)) (fun qe => ?_)
      · simp only [List.mem_cons, List.not_mem_nil, or_false] at hz
        rcases hz with rfl | rfl
        · exact ⟨by decide, _, u867, by decide⟩
        · exact ⟨by decide, _, u993, by decide⟩
      · refine V_astore_n (pc := 18) X [(3, .ref _), (0, .ref _), (1, .int _), (2, .ref _)] dL_erase_18 rfl (by decide) rfl ?_
        refine V_iconst (pc := 19) (v := 3) X dL_erase_19 (by decide) ?_
        refine V_iret (pc := 20) X Q rfl rfl dL_erase_20 ?_
        exact ⟨3, rfl, Or.inr (Or.inr (Or.inr (⟨rfl, y⟩)))⟩
  · rintro v1 h1 r
    obtain ⟨⟨u, rfl⟩, ko⟩ := hv v1 h1 r
    simp only [Option.toList_some, List.cons_append, List.nil_append]
    refine V_i2l (pc := 7) X dL_erase_7 ?_
    refine V_last (pc := 8) X ko dL_erase_8 ?_
    refine V_goto (pc := 9) X 21 dL_erase_9 (by decide) ?_
    refine V_iconst (pc := 21) (v := 0) X dL_erase_21 (by decide) ?_
    refine V_iret (pc := 22) X Q rfl rfl dL_erase_22 ?_
    exact ⟨0, rfl, Or.inl ⟨rfl, u, h1, r, rfl⟩⟩
theorem l_moveCursor {E : EV} {h : AH} {q o b : Nat} {a1 a2 : Int32} {Ret0 : Option Value → AH → Prop} {Thr0 : String → AH → Prop} (hq : qK h q = 9) (M : Ct E yX8_moveCursor cX8_moveCursor 5 (some .int) 7 b [.ref q, .int a1, .int a2] h Ret0 Thr0) (hv : ∀ v h1, Ret0 v h1 → (∃ u : Int32, v = some (.int u)) ∧ qK h1 o = 16) (hthr : ∀ N h1, Thr0 N h1 → N = "java/lang/IndexOutOfBoundsException" ∨ N = "java/lang/IllegalArgumentException") : CtW E yL_moveCursor cL_moveCursor 5 (some .int) [(0, 10, 13, 13), (0, 10, 17, 15)] 8 b [.ref q, .int a1, .int a2, .ref o] h (fun v h1 => ∃ c : Nat, v = some (.int (nI c)) ∧ ((c = 0 ∧ ∃ (u : Int32) (h0 : AH), Ret0 (some (.int u)) h0 ∧ h1 = sF h0 1600 o (.long u.toInt64)) ∨ (c = 1 ∧ Thr0 "java/lang/IndexOutOfBoundsException" h1) ∨ (c = 2 ∧ Thr0 "java/lang/IllegalArgumentException" h1))) := by
  refine CtW_of RL (by decide +kernel) rfl (Nat.le_of_ble_eq_true rfl) (fun Γ X ht nx Q => ?_)
  refine V_aload_n (pc := 0) X 3 dL_moveCursor_0 rfl ?_
  refine V_iconst (pc := 1) (v := 0) X dL_moveCursor_1 (by decide) ?_
  refine V_aload_n (pc := 2) X 0 dL_moveCursor_2 rfl ?_
  refine V_iload_n (pc := 3) X 1 dL_moveCursor_3 rfl ?_
  refine V_iload_n (pc := 4) X 2 dL_moveCursor_4 rfl ?_
  refine V_callV (pc := 5) X clk8 (by decide) hq _ M cw_L_33 (Q.room (by decide) (by decide)) rfl (Nat.le_of_ble_eq_true rfl) rfl (Nat.le_refl _) dL_moveCursor_5 (fun N h1 y => ?_) ?_
  · rcases hthr N h1 y with rfl | rfl
    · refine VX_h X nx ht [] (0, 10, 13, 13) [(0, 10, 17, 15)] rfl (fun z hz => ?_) ⟨by decide, by decide⟩ (by decide) u867 (wnm 203 (by decide +kernel) (by decide +kernel)) (fun qe => ?_)
      · exact absurd hz List.not_mem_nil
      · refine V_astore (pc := 13) X [(4, .ref _), (0, .ref _), (1, .int _), (2, .int _), (3, .ref _)] dL_moveCursor_13 (by decide) rfl ?_
        refine V_iconst (pc := 15) (v := 1) X dL_moveCursor_15 (by decide) ?_
        refine V_iret (pc := 16) X Q rfl rfl dL_moveCursor_16 ?_
        exact ⟨1, rfl, Or.inr (Or.inl ⟨rfl, y⟩)⟩
    · refine VX_h X nx ht [(0, 10, 13, 13)] (0, 10, 17, 15) [] rfl (fun z hz => ?_) ⟨by decide, by decide⟩ (by decide) u883 (wnm 615 (by decide +kernel) (by decide +kernel)) (fun qe => ?_)
      · simp only [List.mem_cons, List.not_mem_nil, or_false] at hz
        subst hz
        exact ⟨by decide, _, u867, by decide⟩
      · refine V_astore (pc := 17) X [(4, .ref _), (0, .ref _), (1, .int _), (2, .int _), (3, .ref _)] dL_moveCursor_17 (by decide) rfl ?_
        refine V_iconst (pc := 19) (v := 2) X dL_moveCursor_19 (by decide) ?_
        refine V_iret (pc := 20) X Q rfl rfl dL_moveCursor_20 ?_
        exact ⟨2, rfl, Or.inr (Or.inr (⟨rfl, y⟩))⟩
  · rintro v1 h1 r
    obtain ⟨⟨u, rfl⟩, ko⟩ := hv v1 h1 r
    simp only [Option.toList_some, List.cons_append, List.nil_append]
    refine V_i2l (pc := 8) X dL_moveCursor_8 ?_
    refine V_last (pc := 9) X ko dL_moveCursor_9 ?_
    refine V_goto (pc := 10) X 21 dL_moveCursor_10 (by decide) ?_
    refine V_iconst (pc := 21) (v := 0) X dL_moveCursor_21 (by decide) ?_
    refine V_iret (pc := 22) X Q rfl rfl dL_moveCursor_22 ?_
    exact ⟨0, rfl, Or.inl ⟨rfl, u, h1, r, rfl⟩⟩
theorem l_undo {E : EV} {h : AH} {q o b : Nat} {a1 : Int32} {Ret0 : Option Value → AH → Prop} {Thr0 : String → AH → Prop} (hq : qK h q = 9) (M : Ct E yX8_undo cX8_undo 5 (some .boolean) 12 b [.ref q, .int a1] h Ret0 Thr0) (hv : ∀ v h1, Ret0 v h1 → (∃ u : Int32, v = some (.int u)) ∧ qK h1 o = 16) (hthr : ∀ N h1, Thr0 N h1 → N = "java/lang/IndexOutOfBoundsException" ∨ N = "java/util/NoSuchElementException" ∨ N = "java/lang/IllegalStateException") : CtW E yL_undo cL_undo 4 (some .int) [(0, 16, 19, 13), (0, 16, 22, 31), (0, 16, 25, 17)] 13 b [.ref q, .int a1, .ref o] h (fun v h1 => ∃ c : Nat, v = some (.int (nI c)) ∧ ((c = 0 ∧ ∃ (u : Int32) (h0 : AH), Ret0 (some (.int u)) h0 ∧ h1 = sF h0 1600 o (.long (if u = 0 then 0 else 1))) ∨ (c = 1 ∧ Thr0 "java/lang/IndexOutOfBoundsException" h1) ∨ (c = 2 ∧ Thr0 "java/util/NoSuchElementException" h1) ∨ (c = 3 ∧ Thr0 "java/lang/IllegalStateException" h1))) := by
  refine CtW_of RL (by decide +kernel) rfl (Nat.le_of_ble_eq_true rfl) (fun Γ X ht nx Q => ?_)
  refine V_aload_n (pc := 0) X 2 dL_undo_0 rfl ?_
  refine V_iconst (pc := 1) (v := 0) X dL_undo_1 (by decide) ?_
  refine V_aload_n (pc := 2) X 0 dL_undo_2 rfl ?_
  refine V_iload_n (pc := 3) X 1 dL_undo_3 rfl ?_
  refine V_callV (pc := 4) X clk8 (by decide) hq _ M cw_L_37 (Q.room (by decide) (by decide)) rfl (Nat.le_of_ble_eq_true rfl) rfl (Nat.le_refl _) dL_undo_4 (fun N h1 y => ?_) ?_
  · rcases hthr N h1 y with rfl | rfl | rfl
    · refine VX_h X nx ht [] (0, 16, 19, 13) [(0, 16, 22, 31), (0, 16, 25, 17)] rfl (fun z hz => ?_) ⟨by decide, by decide⟩ (by decide) u867 (wnm 203 (by decide +kernel) (by decide +kernel)) (fun qe => ?_)
      · exact absurd hz List.not_mem_nil
      · refine V_astore_n (pc := 19) X [(3, .ref _), (0, .ref _), (1, .int _), (2, .ref _)] dL_undo_19 rfl (by decide) rfl ?_
        refine V_iconst (pc := 20) (v := 1) X dL_undo_20 (by decide) ?_
        refine V_iret (pc := 21) X Q rfl rfl dL_undo_21 ?_
        exact ⟨1, rfl, Or.inr (Or.inl ⟨rfl, y⟩)⟩
    · refine VX_h X nx ht [(0, 16, 19, 13)] (0, 16, 22, 31) [(0, 16, 25, 17)] rfl (fun z hz => ?_) ⟨by decide, by decide⟩ (by decide) u993 (wnm 274 (by decide +kernel) (by decide +kernel)) (fun qe => ?_)
      · simp only [List.mem_cons, List.not_mem_nil, or_false] at hz
        subst hz
        exact ⟨by decide, _, u867, by decide⟩
      · refine V_astore_n (pc := 22) X [(3, .ref _), (0, .ref _), (1, .int _), (2, .ref _)] dL_undo_22 rfl (by decide) rfl ?_
        refine V_iconst (pc := 23) (v := 2) X dL_undo_23 (by decide) ?_
        refine V_iret (pc := 24) X Q rfl rfl dL_undo_24 ?_
        exact ⟨2, rfl, Or.inr (Or.inr (Or.inl ⟨rfl, y⟩))⟩
    · refine VX_h X nx ht [(0, 16, 19, 13), (0, 16, 22, 31)] (0, 16, 25, 17) [] rfl (fun z hz => ?_) ⟨by decide, by decide⟩ (by decide) u884 (wnm 903 (by decide +kernel) (by decide +kernel)) (fun qe => ?_)
      · simp only [List.mem_cons, List.not_mem_nil, or_false] at hz
        rcases hz with rfl | rfl
        · exact ⟨by decide, _, u867, by decide⟩
        · exact ⟨by decide, _, u993, by decide⟩
      · refine V_astore_n (pc := 25) X [(3, .ref _), (0, .ref _), (1, .int _), (2, .ref _)] dL_undo_25 rfl (by decide) rfl ?_
        refine V_iconst (pc := 26) (v := 3) X dL_undo_26 (by decide) ?_
        refine V_iret (pc := 27) X Q rfl rfl dL_undo_27 ?_
        exact ⟨3, rfl, Or.inr (Or.inr (Or.inr (⟨rfl, y⟩)))⟩
  · rintro v1 h1 r
    obtain ⟨⟨u, rfl⟩, ko⟩ := hv v1 h1 r
    simp only [Option.toList_some, List.cons_append, List.nil_append]
    refine V_if_eq (pc := 7) X 14 dL_undo_7 (by decide) (fun c7 => ?_) (fun c7 => ?_)
    · refine V_lconst (pc := 14) (v := 0) X dL_undo_14 (by decide) ?_
      refine V_last (pc := 15) X ko dL_undo_15 ?_
      refine V_goto (pc := 16) X 28 dL_undo_16 (by decide) ?_
      refine V_iconst (pc := 28) (v := 0) X dL_undo_28 (by decide) ?_
      refine V_iret (pc := 29) X Q rfl rfl dL_undo_29 ?_
      first
      | exact ⟨0, rfl, Or.inl ⟨rfl, u, h1, r, by rw [if_pos c7]⟩⟩
      | exact ⟨0, rfl, Or.inl ⟨rfl, u, h1, r, by rw [if_neg c7]⟩⟩
    · refine V_lconst (pc := 10) (v := 1) X dL_undo_10 (by decide) ?_
      refine V_goto (pc := 11) X 15 dL_undo_11 (by decide) ?_
      refine V_last (pc := 15) X ko dL_undo_15 ?_
      refine V_goto (pc := 16) X 28 dL_undo_16 (by decide) ?_
      refine V_iconst (pc := 28) (v := 0) X dL_undo_28 (by decide) ?_
      refine V_iret (pc := 29) X Q rfl rfl dL_undo_29 ?_
      first
      | exact ⟨0, rfl, Or.inl ⟨rfl, u, h1, r, by rw [if_pos c7]⟩⟩
      | exact ⟨0, rfl, Or.inl ⟨rfl, u, h1, r, by rw [if_neg c7]⟩⟩
theorem l_deliverUp {E : EV} {h : AH} {q o b : Nat} {a1 : Int32} {Ret0 : Option Value → AH → Prop} {Thr0 : String → AH → Prop} (hq : qK h q = 9) (M : Ct E yX8_deliverUp cX8_deliverUp 4 (some .int) 12 b [.ref q, .int a1] h Ret0 Thr0) (hv : ∀ v h1, Ret0 v h1 → (∃ u : Int32, v = some (.int u)) ∧ qK h1 o = 16) (hthr : ∀ N h1, Thr0 N h1 → N = "java/lang/IndexOutOfBoundsException" ∨ N = "java/util/NoSuchElementException") : CtW E yL_deliverUp cL_deliverUp 4 (some .int) [(0, 9, 12, 13), (0, 9, 15, 31)] 13 b [.ref q, .int a1, .ref o] h (fun v h1 => ∃ c : Nat, v = some (.int (nI c)) ∧ ((c = 0 ∧ ∃ (u : Int32) (h0 : AH), Ret0 (some (.int u)) h0 ∧ h1 = sF h0 1600 o (.long u.toInt64)) ∨ (c = 1 ∧ Thr0 "java/lang/IndexOutOfBoundsException" h1) ∨ (c = 2 ∧ Thr0 "java/util/NoSuchElementException" h1))) := by
  refine CtW_of RL (by decide +kernel) rfl (Nat.le_of_ble_eq_true rfl) (fun Γ X ht nx Q => ?_)
  refine V_aload_n (pc := 0) X 2 dL_deliverUp_0 rfl ?_
  refine V_iconst (pc := 1) (v := 0) X dL_deliverUp_1 (by decide) ?_
  refine V_aload_n (pc := 2) X 0 dL_deliverUp_2 rfl ?_
  refine V_iload_n (pc := 3) X 1 dL_deliverUp_3 rfl ?_
  refine V_callV (pc := 4) X clk8 (by decide) hq _ M cw_L_41 (Q.room (by decide) (by decide)) rfl (Nat.le_of_ble_eq_true rfl) rfl (Nat.le_refl _) dL_deliverUp_4 (fun N h1 y => ?_) ?_
  · rcases hthr N h1 y with rfl | rfl
    · refine VX_h X nx ht [] (0, 9, 12, 13) [(0, 9, 15, 31)] rfl (fun z hz => ?_) ⟨by decide, by decide⟩ (by decide) u867 (wnm 203 (by decide +kernel) (by decide +kernel)) (fun qe => ?_)
      · exact absurd hz List.not_mem_nil
      · refine V_astore_n (pc := 12) X [(3, .ref _), (0, .ref _), (1, .int _), (2, .ref _)] dL_deliverUp_12 rfl (by decide) rfl ?_
        refine V_iconst (pc := 13) (v := 1) X dL_deliverUp_13 (by decide) ?_
        refine V_iret (pc := 14) X Q rfl rfl dL_deliverUp_14 ?_
        exact ⟨1, rfl, Or.inr (Or.inl ⟨rfl, y⟩)⟩
    · refine VX_h X nx ht [(0, 9, 12, 13)] (0, 9, 15, 31) [] rfl (fun z hz => ?_) ⟨by decide, by decide⟩ (by decide) u993 (wnm 274 (by decide +kernel) (by decide +kernel)) (fun qe => ?_)
      · simp only [List.mem_cons, List.not_mem_nil, or_false] at hz
        subst hz
        exact ⟨by decide, _, u867, by decide⟩
      · refine V_astore_n (pc := 15) X [(3, .ref _), (0, .ref _), (1, .int _), (2, .ref _)] dL_deliverUp_15 rfl (by decide) rfl ?_
        refine V_iconst (pc := 16) (v := 2) X dL_deliverUp_16 (by decide) ?_
        refine V_iret (pc := 17) X Q rfl rfl dL_deliverUp_17 ?_
        exact ⟨2, rfl, Or.inr (Or.inr (⟨rfl, y⟩))⟩
  · rintro v1 h1 r
    obtain ⟨⟨u, rfl⟩, ko⟩ := hv v1 h1 r
    simp only [Option.toList_some, List.cons_append, List.nil_append]
    refine V_i2l (pc := 7) X dL_deliverUp_7 ?_
    refine V_last (pc := 8) X ko dL_deliverUp_8 ?_
    refine V_goto (pc := 9) X 18 dL_deliverUp_9 (by decide) ?_
    refine V_iconst (pc := 18) (v := 0) X dL_deliverUp_18 (by decide) ?_
    refine V_iret (pc := 19) X Q rfl rfl dL_deliverUp_19 ?_
    exact ⟨0, rfl, Or.inl ⟨rfl, u, h1, r, rfl⟩⟩
theorem l_deliverDown {E : EV} {h : AH} {q o b : Nat} {a1 : Int32} {Ret0 : Option Value → AH → Prop} {Thr0 : String → AH → Prop} (hq : qK h q = 9) (M : Ct E yX8_deliverDown cX8_deliverDown 4 (some .char) 13 b [.ref q, .int a1] h Ret0 Thr0) (hv : ∀ v h1, Ret0 v h1 → (∃ u : Int32, v = some (.int u)) ∧ qK h1 o = 16) (hthr : ∀ N h1, Thr0 N h1 → N = "java/lang/IndexOutOfBoundsException" ∨ N = "java/util/NoSuchElementException") : CtW E yL_deliverDown cL_deliverDown 4 (some .int) [(0, 9, 12, 13), (0, 9, 15, 31)] 14 b [.ref q, .int a1, .ref o] h (fun v h1 => ∃ c : Nat, v = some (.int (nI c)) ∧ ((c = 0 ∧ ∃ (u : Int32) (h0 : AH), Ret0 (some (.int u)) h0 ∧ h1 = sF h0 1600 o (.long u.toInt64)) ∨ (c = 1 ∧ Thr0 "java/lang/IndexOutOfBoundsException" h1) ∨ (c = 2 ∧ Thr0 "java/util/NoSuchElementException" h1))) := by
  refine CtW_of RL (by decide +kernel) rfl (Nat.le_of_ble_eq_true rfl) (fun Γ X ht nx Q => ?_)
  refine V_aload_n (pc := 0) X 2 dL_deliverDown_0 rfl ?_
  refine V_iconst (pc := 1) (v := 0) X dL_deliverDown_1 (by decide) ?_
  refine V_aload_n (pc := 2) X 0 dL_deliverDown_2 rfl ?_
  refine V_iload_n (pc := 3) X 1 dL_deliverDown_3 rfl ?_
  refine V_callV (pc := 4) X clk8 (by decide) hq _ M cw_L_45 (Q.room (by decide) (by decide)) rfl (Nat.le_of_ble_eq_true rfl) rfl (Nat.le_refl _) dL_deliverDown_4 (fun N h1 y => ?_) ?_
  · rcases hthr N h1 y with rfl | rfl
    · refine VX_h X nx ht [] (0, 9, 12, 13) [(0, 9, 15, 31)] rfl (fun z hz => ?_) ⟨by decide, by decide⟩ (by decide) u867 (wnm 203 (by decide +kernel) (by decide +kernel)) (fun qe => ?_)
      · exact absurd hz List.not_mem_nil
      · refine V_astore_n (pc := 12) X [(3, .ref _), (0, .ref _), (1, .int _), (2, .ref _)] dL_deliverDown_12 rfl (by decide) rfl ?_
        refine V_iconst (pc := 13) (v := 1) X dL_deliverDown_13 (by decide) ?_
        refine V_iret (pc := 14) X Q rfl rfl dL_deliverDown_14 ?_
        exact ⟨1, rfl, Or.inr (Or.inl ⟨rfl, y⟩)⟩
    · refine VX_h X nx ht [(0, 9, 12, 13)] (0, 9, 15, 31) [] rfl (fun z hz => ?_) ⟨by decide, by decide⟩ (by decide) u993 (wnm 274 (by decide +kernel) (by decide +kernel)) (fun qe => ?_)
      · simp only [List.mem_cons, List.not_mem_nil, or_false] at hz
        subst hz
        exact ⟨by decide, _, u867, by decide⟩
      · refine V_astore_n (pc := 15) X [(3, .ref _), (0, .ref _), (1, .int _), (2, .ref _)] dL_deliverDown_15 rfl (by decide) rfl ?_
        refine V_iconst (pc := 16) (v := 2) X dL_deliverDown_16 (by decide) ?_
        refine V_iret (pc := 17) X Q rfl rfl dL_deliverDown_17 ?_
        exact ⟨2, rfl, Or.inr (Or.inr (⟨rfl, y⟩))⟩
  · rintro v1 h1 r
    obtain ⟨⟨u, rfl⟩, ko⟩ := hv v1 h1 r
    simp only [Option.toList_some, List.cons_append, List.nil_append]
    refine V_i2l (pc := 7) X dL_deliverDown_7 ?_
    refine V_last (pc := 8) X ko dL_deliverDown_8 ?_
    refine V_goto (pc := 9) X 18 dL_deliverDown_9 (by decide) ?_
    refine V_iconst (pc := 18) (v := 0) X dL_deliverDown_18 (by decide) ?_
    refine V_iret (pc := 19) X Q rfl rfl dL_deliverDown_19 ?_
    exact ⟨0, rfl, Or.inl ⟨rfl, u, h1, r, rfl⟩⟩
theorem l_length {E : EV} {h : AH} {q o b : Nat} {a1 : Int32} {Ret0 : Option Value → AH → Prop} {Thr0 : String → AH → Prop} (hq : qK h q = 9) (M : Ct E yX8_length cX8_length 2 (some .int) 7 b [.ref q, .int a1] h Ret0 Thr0) (hv : ∀ v h1, Ret0 v h1 → (∃ u : Int32, v = some (.int u)) ∧ qK h1 o = 16) (hthr : ∀ N h1, Thr0 N h1 → N = "java/lang/IndexOutOfBoundsException") : CtW E yL_length cL_length 4 (some .int) [(0, 9, 12, 13)] 8 b [.ref q, .int a1, .ref o] h (fun v h1 => ∃ c : Nat, v = some (.int (nI c)) ∧ ((c = 0 ∧ ∃ (u : Int32) (h0 : AH), Ret0 (some (.int u)) h0 ∧ h1 = sF h0 1600 o (.long u.toInt64)) ∨ (c = 1 ∧ Thr0 "java/lang/IndexOutOfBoundsException" h1))) := by
  refine CtW_of RL (by decide +kernel) rfl (Nat.le_of_ble_eq_true rfl) (fun Γ X ht nx Q => ?_)
  refine V_aload_n (pc := 0) X 2 dL_length_0 rfl ?_
  refine V_iconst (pc := 1) (v := 0) X dL_length_1 (by decide) ?_
  refine V_aload_n (pc := 2) X 0 dL_length_2 rfl ?_
  refine V_iload_n (pc := 3) X 1 dL_length_3 rfl ?_
  refine V_callV (pc := 4) X clk8 (by decide) hq _ M cw_L_48 (Q.room (by decide) (by decide)) rfl (Nat.le_of_ble_eq_true rfl) rfl (Nat.le_refl _) dL_length_4 (fun N h1 y => ?_) ?_
  · obtain rfl := hthr N h1 y
    refine VX_h X nx ht [] (0, 9, 12, 13) [] rfl (fun z hz => ?_) ⟨by decide, by decide⟩ (by decide) u867 (wnm 203 (by decide +kernel) (by decide +kernel)) (fun qe => ?_)
    · exact absurd hz List.not_mem_nil
    · refine V_astore_n (pc := 12) X [(3, .ref _), (0, .ref _), (1, .int _), (2, .ref _)] dL_length_12 rfl (by decide) rfl ?_
      refine V_iconst (pc := 13) (v := 1) X dL_length_13 (by decide) ?_
      refine V_iret (pc := 14) X Q rfl rfl dL_length_14 ?_
      exact ⟨1, rfl, Or.inr (⟨rfl, y⟩)⟩
  · rintro v1 h1 r
    obtain ⟨⟨u, rfl⟩, ko⟩ := hv v1 h1 r
    simp only [Option.toList_some, List.cons_append, List.nil_append]
    refine V_i2l (pc := 7) X dL_length_7 ?_
    refine V_last (pc := 8) X ko dL_length_8 ?_
    refine V_goto (pc := 9) X 15 dL_length_9 (by decide) ?_
    refine V_iconst (pc := 15) (v := 0) X dL_length_15 (by decide) ?_
    refine V_iret (pc := 16) X Q rfl rfl dL_length_16 ?_
    exact ⟨0, rfl, Or.inl ⟨rfl, u, h1, r, rfl⟩⟩
theorem l_charAt {E : EV} {h : AH} {q o b : Nat} {a1 a2 : Int32} {Ret0 : Option Value → AH → Prop} {Thr0 : String → AH → Prop} (hq : qK h q = 9) (M : Ct E yX8_charAt cX8_charAt 3 (some .char) 7 b [.ref q, .int a1, .int a2] h Ret0 Thr0) (hv : ∀ v h1, Ret0 v h1 → (∃ u : Int32, v = some (.int u)) ∧ qK h1 o = 16) (hthr : ∀ N h1, Thr0 N h1 → N = "java/lang/IndexOutOfBoundsException" ∨ N = "java/lang/IllegalArgumentException") : CtW E yL_charAt cL_charAt 5 (some .int) [(0, 10, 13, 13), (0, 10, 17, 15)] 8 b [.ref q, .int a1, .int a2, .ref o] h (fun v h1 => ∃ c : Nat, v = some (.int (nI c)) ∧ ((c = 0 ∧ ∃ (u : Int32) (h0 : AH), Ret0 (some (.int u)) h0 ∧ h1 = sF h0 1600 o (.long u.toInt64)) ∨ (c = 1 ∧ Thr0 "java/lang/IndexOutOfBoundsException" h1) ∨ (c = 2 ∧ Thr0 "java/lang/IllegalArgumentException" h1))) := by
  refine CtW_of RL (by decide +kernel) rfl (Nat.le_of_ble_eq_true rfl) (fun Γ X ht nx Q => ?_)
  refine V_aload_n (pc := 0) X 3 dL_charAt_0 rfl ?_
  refine V_iconst (pc := 1) (v := 0) X dL_charAt_1 (by decide) ?_
  refine V_aload_n (pc := 2) X 0 dL_charAt_2 rfl ?_
  refine V_iload_n (pc := 3) X 1 dL_charAt_3 rfl ?_
  refine V_iload_n (pc := 4) X 2 dL_charAt_4 rfl ?_
  refine V_callV (pc := 5) X clk8 (by decide) hq _ M cw_L_51 (Q.room (by decide) (by decide)) rfl (Nat.le_of_ble_eq_true rfl) rfl (Nat.le_refl _) dL_charAt_5 (fun N h1 y => ?_) ?_
  · rcases hthr N h1 y with rfl | rfl
    · refine VX_h X nx ht [] (0, 10, 13, 13) [(0, 10, 17, 15)] rfl (fun z hz => ?_) ⟨by decide, by decide⟩ (by decide) u867 (wnm 203 (by decide +kernel) (by decide +kernel)) (fun qe => ?_)
      · exact absurd hz List.not_mem_nil
      · refine V_astore (pc := 13) X [(4, .ref _), (0, .ref _), (1, .int _), (2, .int _), (3, .ref _)] dL_charAt_13 (by decide) rfl ?_
        refine V_iconst (pc := 15) (v := 1) X dL_charAt_15 (by decide) ?_
        refine V_iret (pc := 16) X Q rfl rfl dL_charAt_16 ?_
        exact ⟨1, rfl, Or.inr (Or.inl ⟨rfl, y⟩)⟩
    · refine VX_h X nx ht [(0, 10, 13, 13)] (0, 10, 17, 15) [] rfl (fun z hz => ?_) ⟨by decide, by decide⟩ (by decide) u883 (wnm 615 (by decide +kernel) (by decide +kernel)) (fun qe => ?_)
      · simp only [List.mem_cons, List.not_mem_nil, or_false] at hz
        subst hz
        exact ⟨by decide, _, u867, by decide⟩
      · refine V_astore (pc := 17) X [(4, .ref _), (0, .ref _), (1, .int _), (2, .int _), (3, .ref _)] dL_charAt_17 (by decide) rfl ?_
        refine V_iconst (pc := 19) (v := 2) X dL_charAt_19 (by decide) ?_
        refine V_iret (pc := 20) X Q rfl rfl dL_charAt_20 ?_
        exact ⟨2, rfl, Or.inr (Or.inr (⟨rfl, y⟩))⟩
  · rintro v1 h1 r
    obtain ⟨⟨u, rfl⟩, ko⟩ := hv v1 h1 r
    simp only [Option.toList_some, List.cons_append, List.nil_append]
    refine V_i2l (pc := 8) X dL_charAt_8 ?_
    refine V_last (pc := 9) X ko dL_charAt_9 ?_
    refine V_goto (pc := 10) X 21 dL_charAt_10 (by decide) ?_
    refine V_iconst (pc := 21) (v := 0) X dL_charAt_21 (by decide) ?_
    refine V_iret (pc := 22) X Q rfl rfl dL_charAt_22 ?_
    exact ⟨0, rfl, Or.inl ⟨rfl, u, h1, r, rfl⟩⟩
theorem l_ownerAt {E : EV} {h : AH} {q o b : Nat} {a1 a2 : Int32} {Ret0 : Option Value → AH → Prop} {Thr0 : String → AH → Prop} (hq : qK h q = 9) (M : Ct E yX8_ownerAt cX8_ownerAt 3 (some .int) 7 b [.ref q, .int a1, .int a2] h Ret0 Thr0) (hv : ∀ v h1, Ret0 v h1 → (∃ u : Int32, v = some (.int u)) ∧ qK h1 o = 16) (hthr : ∀ N h1, Thr0 N h1 → N = "java/lang/IndexOutOfBoundsException" ∨ N = "java/lang/IllegalArgumentException") : CtW E yL_ownerAt cL_ownerAt 5 (some .int) [(0, 10, 13, 13), (0, 10, 17, 15)] 8 b [.ref q, .int a1, .int a2, .ref o] h (fun v h1 => ∃ c : Nat, v = some (.int (nI c)) ∧ ((c = 0 ∧ ∃ (u : Int32) (h0 : AH), Ret0 (some (.int u)) h0 ∧ h1 = sF h0 1600 o (.long u.toInt64)) ∨ (c = 1 ∧ Thr0 "java/lang/IndexOutOfBoundsException" h1) ∨ (c = 2 ∧ Thr0 "java/lang/IllegalArgumentException" h1))) := by
  refine CtW_of RL (by decide +kernel) rfl (Nat.le_of_ble_eq_true rfl) (fun Γ X ht nx Q => ?_)
  refine V_aload_n (pc := 0) X 3 dL_ownerAt_0 rfl ?_
  refine V_iconst (pc := 1) (v := 0) X dL_ownerAt_1 (by decide) ?_
  refine V_aload_n (pc := 2) X 0 dL_ownerAt_2 rfl ?_
  refine V_iload_n (pc := 3) X 1 dL_ownerAt_3 rfl ?_
  refine V_iload_n (pc := 4) X 2 dL_ownerAt_4 rfl ?_
  refine V_callV (pc := 5) X clk8 (by decide) hq _ M cw_L_54 (Q.room (by decide) (by decide)) rfl (Nat.le_of_ble_eq_true rfl) rfl (Nat.le_refl _) dL_ownerAt_5 (fun N h1 y => ?_) ?_
  · rcases hthr N h1 y with rfl | rfl
    · refine VX_h X nx ht [] (0, 10, 13, 13) [(0, 10, 17, 15)] rfl (fun z hz => ?_) ⟨by decide, by decide⟩ (by decide) u867 (wnm 203 (by decide +kernel) (by decide +kernel)) (fun qe => ?_)
      · exact absurd hz List.not_mem_nil
      · refine V_astore (pc := 13) X [(4, .ref _), (0, .ref _), (1, .int _), (2, .int _), (3, .ref _)] dL_ownerAt_13 (by decide) rfl ?_
        refine V_iconst (pc := 15) (v := 1) X dL_ownerAt_15 (by decide) ?_
        refine V_iret (pc := 16) X Q rfl rfl dL_ownerAt_16 ?_
        exact ⟨1, rfl, Or.inr (Or.inl ⟨rfl, y⟩)⟩
    · refine VX_h X nx ht [(0, 10, 13, 13)] (0, 10, 17, 15) [] rfl (fun z hz => ?_) ⟨by decide, by decide⟩ (by decide) u883 (wnm 615 (by decide +kernel) (by decide +kernel)) (fun qe => ?_)
      · simp only [List.mem_cons, List.not_mem_nil, or_false] at hz
        subst hz
        exact ⟨by decide, _, u867, by decide⟩
      · refine V_astore (pc := 17) X [(4, .ref _), (0, .ref _), (1, .int _), (2, .int _), (3, .ref _)] dL_ownerAt_17 (by decide) rfl ?_
        refine V_iconst (pc := 19) (v := 2) X dL_ownerAt_19 (by decide) ?_
        refine V_iret (pc := 20) X Q rfl rfl dL_ownerAt_20 ?_
        exact ⟨2, rfl, Or.inr (Or.inr (⟨rfl, y⟩))⟩
  · rintro v1 h1 r
    obtain ⟨⟨u, rfl⟩, ko⟩ := hv v1 h1 r
    simp only [Option.toList_some, List.cons_append, List.nil_append]
    refine V_i2l (pc := 8) X dL_ownerAt_8 ?_
    refine V_last (pc := 9) X ko dL_ownerAt_9 ?_
    refine V_goto (pc := 10) X 21 dL_ownerAt_10 (by decide) ?_
    refine V_iconst (pc := 21) (v := 0) X dL_ownerAt_21 (by decide) ?_
    refine V_iret (pc := 22) X Q rfl rfl dL_ownerAt_22 ?_
    exact ⟨0, rfl, Or.inl ⟨rfl, u, h1, r, rfl⟩⟩
theorem l_lengthByHistory {E : EV} {h : AH} {q o b : Nat} {a1 : Int32} {Ret0 : Option Value → AH → Prop} {Thr0 : String → AH → Prop} (hq : qK h q = 9) (M : Ct E yX8_lengthByHistory cX8_lengthByHistory 2 (some .int) 11 b [.ref q, .int a1] h Ret0 Thr0) (hv : ∀ v h1, Ret0 v h1 → (∃ u : Int32, v = some (.int u)) ∧ qK h1 o = 16) (hthr : ∀ N h1, Thr0 N h1 → N = "java/lang/IndexOutOfBoundsException") : CtW E yL_lengthByHistory cL_lengthByHistory 4 (some .int) [(0, 9, 12, 13)] 12 b [.ref q, .int a1, .ref o] h (fun v h1 => ∃ c : Nat, v = some (.int (nI c)) ∧ ((c = 0 ∧ ∃ (u : Int32) (h0 : AH), Ret0 (some (.int u)) h0 ∧ h1 = sF h0 1600 o (.long u.toInt64)) ∨ (c = 1 ∧ Thr0 "java/lang/IndexOutOfBoundsException" h1))) := by
  refine CtW_of RL (by decide +kernel) rfl (Nat.le_of_ble_eq_true rfl) (fun Γ X ht nx Q => ?_)
  refine V_aload_n (pc := 0) X 2 dL_lengthByHistory_0 rfl ?_
  refine V_iconst (pc := 1) (v := 0) X dL_lengthByHistory_1 (by decide) ?_
  refine V_aload_n (pc := 2) X 0 dL_lengthByHistory_2 rfl ?_
  refine V_iload_n (pc := 3) X 1 dL_lengthByHistory_3 rfl ?_
  refine V_callV (pc := 4) X clk8 (by decide) hq _ M cw_L_57 (Q.room (by decide) (by decide)) rfl (Nat.le_of_ble_eq_true rfl) rfl (Nat.le_refl _) dL_lengthByHistory_4 (fun N h1 y => ?_) ?_
  · obtain rfl := hthr N h1 y
    refine VX_h X nx ht [] (0, 9, 12, 13) [] rfl (fun z hz => ?_) ⟨by decide, by decide⟩ (by decide) u867 (wnm 203 (by decide +kernel) (by decide +kernel)) (fun qe => ?_)
    · exact absurd hz List.not_mem_nil
    · refine V_astore_n (pc := 12) X [(3, .ref _), (0, .ref _), (1, .int _), (2, .ref _)] dL_lengthByHistory_12 rfl (by decide) rfl ?_
      refine V_iconst (pc := 13) (v := 1) X dL_lengthByHistory_13 (by decide) ?_
      refine V_iret (pc := 14) X Q rfl rfl dL_lengthByHistory_14 ?_
      exact ⟨1, rfl, Or.inr (⟨rfl, y⟩)⟩
  · rintro v1 h1 r
    obtain ⟨⟨u, rfl⟩, ko⟩ := hv v1 h1 r
    simp only [Option.toList_some, List.cons_append, List.nil_append]
    refine V_i2l (pc := 7) X dL_lengthByHistory_7 ?_
    refine V_last (pc := 8) X ko dL_lengthByHistory_8 ?_
    refine V_goto (pc := 9) X 15 dL_lengthByHistory_9 (by decide) ?_
    refine V_iconst (pc := 15) (v := 0) X dL_lengthByHistory_15 (by decide) ?_
    refine V_iret (pc := 16) X Q rfl rfl dL_lengthByHistory_16 ?_
    exact ⟨0, rfl, Or.inl ⟨rfl, u, h1, r, rfl⟩⟩
theorem l_charByHistory {E : EV} {h : AH} {q o b : Nat} {a1 a2 : Int32} {Ret0 : Option Value → AH → Prop} {Thr0 : String → AH → Prop} (hq : qK h q = 9) (M : Ct E yX8_charByHistory cX8_charByHistory 3 (some .char) 11 b [.ref q, .int a1, .int a2] h Ret0 Thr0) (hv : ∀ v h1, Ret0 v h1 → (∃ u : Int32, v = some (.int u)) ∧ qK h1 o = 16) (hthr : ∀ N h1, Thr0 N h1 → N = "java/lang/IndexOutOfBoundsException" ∨ N = "java/lang/IllegalArgumentException") : CtW E yL_charByHistory cL_charByHistory 5 (some .int) [(0, 10, 13, 13), (0, 10, 17, 15)] 12 b [.ref q, .int a1, .int a2, .ref o] h (fun v h1 => ∃ c : Nat, v = some (.int (nI c)) ∧ ((c = 0 ∧ ∃ (u : Int32) (h0 : AH), Ret0 (some (.int u)) h0 ∧ h1 = sF h0 1600 o (.long u.toInt64)) ∨ (c = 1 ∧ Thr0 "java/lang/IndexOutOfBoundsException" h1) ∨ (c = 2 ∧ Thr0 "java/lang/IllegalArgumentException" h1))) := by
  refine CtW_of RL (by decide +kernel) rfl (Nat.le_of_ble_eq_true rfl) (fun Γ X ht nx Q => ?_)
  refine V_aload_n (pc := 0) X 3 dL_charByHistory_0 rfl ?_
  refine V_iconst (pc := 1) (v := 0) X dL_charByHistory_1 (by decide) ?_
  refine V_aload_n (pc := 2) X 0 dL_charByHistory_2 rfl ?_
  refine V_iload_n (pc := 3) X 1 dL_charByHistory_3 rfl ?_
  refine V_iload_n (pc := 4) X 2 dL_charByHistory_4 rfl ?_
  refine V_callV (pc := 5) X clk8 (by decide) hq _ M cw_L_60 (Q.room (by decide) (by decide)) rfl (Nat.le_of_ble_eq_true rfl) rfl (Nat.le_refl _) dL_charByHistory_5 (fun N h1 y => ?_) ?_
  · rcases hthr N h1 y with rfl | rfl
    · refine VX_h X nx ht [] (0, 10, 13, 13) [(0, 10, 17, 15)] rfl (fun z hz => ?_) ⟨by decide, by decide⟩ (by decide) u867 (wnm 203 (by decide +kernel) (by decide +kernel)) (fun qe => ?_)
      · exact absurd hz List.not_mem_nil
      · refine V_astore (pc := 13) X [(4, .ref _), (0, .ref _), (1, .int _), (2, .int _), (3, .ref _)] dL_charByHistory_13 (by decide) rfl ?_
        refine V_iconst (pc := 15) (v := 1) X dL_charByHistory_15 (by decide) ?_
        refine V_iret (pc := 16) X Q rfl rfl dL_charByHistory_16 ?_
        exact ⟨1, rfl, Or.inr (Or.inl ⟨rfl, y⟩)⟩
    · refine VX_h X nx ht [(0, 10, 13, 13)] (0, 10, 17, 15) [] rfl (fun z hz => ?_) ⟨by decide, by decide⟩ (by decide) u883 (wnm 615 (by decide +kernel) (by decide +kernel)) (fun qe => ?_)
      · simp only [List.mem_cons, List.not_mem_nil, or_false] at hz
        subst hz
        exact ⟨by decide, _, u867, by decide⟩
      · refine V_astore (pc := 17) X [(4, .ref _), (0, .ref _), (1, .int _), (2, .int _), (3, .ref _)] dL_charByHistory_17 (by decide) rfl ?_
        refine V_iconst (pc := 19) (v := 2) X dL_charByHistory_19 (by decide) ?_
        refine V_iret (pc := 20) X Q rfl rfl dL_charByHistory_20 ?_
        exact ⟨2, rfl, Or.inr (Or.inr (⟨rfl, y⟩))⟩
  · rintro v1 h1 r
    obtain ⟨⟨u, rfl⟩, ko⟩ := hv v1 h1 r
    simp only [Option.toList_some, List.cons_append, List.nil_append]
    refine V_i2l (pc := 8) X dL_charByHistory_8 ?_
    refine V_last (pc := 9) X ko dL_charByHistory_9 ?_
    refine V_goto (pc := 10) X 21 dL_charByHistory_10 (by decide) ?_
    refine V_iconst (pc := 21) (v := 0) X dL_charByHistory_21 (by decide) ?_
    refine V_iret (pc := 22) X Q rfl rfl dL_charByHistory_22 ?_
    exact ⟨0, rfl, Or.inl ⟨rfl, u, h1, r, rfl⟩⟩
theorem l_centreChar {E : EV} {h : AH} {q o b : Nat} {a1 : Int32} {Ret0 : Option Value → AH → Prop} {Thr0 : String → AH → Prop} (hq : qK h q = 9) (M : Ct E yX8_centreChar cX8_centreChar 2 (some .char) 7 b [.ref q, .int a1] h Ret0 Thr0) (hv : ∀ v h1, Ret0 v h1 → (∃ u : Int32, v = some (.int u)) ∧ qK h1 o = 16) (hthr : ∀ N h1, Thr0 N h1 → N = "java/lang/IllegalArgumentException") : CtW E yL_centreChar cL_centreChar 4 (some .int) [(0, 9, 12, 15)] 8 b [.ref q, .int a1, .ref o] h (fun v h1 => ∃ c : Nat, v = some (.int (nI c)) ∧ ((c = 0 ∧ ∃ (u : Int32) (h0 : AH), Ret0 (some (.int u)) h0 ∧ h1 = sF h0 1600 o (.long u.toInt64)) ∨ (c = 1 ∧ Thr0 "java/lang/IllegalArgumentException" h1))) := by
  refine CtW_of RL (by decide +kernel) rfl (Nat.le_of_ble_eq_true rfl) (fun Γ X ht nx Q => ?_)
  refine V_aload_n (pc := 0) X 2 dL_centreChar_0 rfl ?_
  refine V_iconst (pc := 1) (v := 0) X dL_centreChar_1 (by decide) ?_
  refine V_aload_n (pc := 2) X 0 dL_centreChar_2 rfl ?_
  refine V_iload_n (pc := 3) X 1 dL_centreChar_3 rfl ?_
  refine V_callV (pc := 4) X clk8 (by decide) hq _ M cw_L_63 (Q.room (by decide) (by decide)) rfl (Nat.le_of_ble_eq_true rfl) rfl (Nat.le_refl _) dL_centreChar_4 (fun N h1 y => ?_) ?_
  · obtain rfl := hthr N h1 y
    refine VX_h X nx ht [] (0, 9, 12, 15) [] rfl (fun z hz => ?_) ⟨by decide, by decide⟩ (by decide) u883 (wnm 615 (by decide +kernel) (by decide +kernel)) (fun qe => ?_)
    · exact absurd hz List.not_mem_nil
    · refine V_astore_n (pc := 12) X [(3, .ref _), (0, .ref _), (1, .int _), (2, .ref _)] dL_centreChar_12 rfl (by decide) rfl ?_
      refine V_iconst (pc := 13) (v := 1) X dL_centreChar_13 (by decide) ?_
      refine V_iret (pc := 14) X Q rfl rfl dL_centreChar_14 ?_
      exact ⟨1, rfl, Or.inr (⟨rfl, y⟩)⟩
  · rintro v1 h1 r
    obtain ⟨⟨u, rfl⟩, ko⟩ := hv v1 h1 r
    simp only [Option.toList_some, List.cons_append, List.nil_append]
    refine V_i2l (pc := 7) X dL_centreChar_7 ?_
    refine V_last (pc := 8) X ko dL_centreChar_8 ?_
    refine V_goto (pc := 9) X 15 dL_centreChar_9 (by decide) ?_
    refine V_iconst (pc := 15) (v := 0) X dL_centreChar_15 (by decide) ?_
    refine V_iret (pc := 16) X Q rfl rfl dL_centreChar_16 ?_
    exact ⟨0, rfl, Or.inl ⟨rfl, u, h1, r, rfl⟩⟩
theorem l_cursor {E : EV} {h : AH} {q o b : Nat} {a1 : Int32} {Ret0 : Option Value → AH → Prop} {Thr0 : String → AH → Prop} (hq : qK h q = 9) (M : Ct E yX8_cursor cX8_cursor 2 (some .int) 7 b [.ref q, .int a1] h Ret0 Thr0) (hv : ∀ v h1, Ret0 v h1 → (∃ u : Int32, v = some (.int u)) ∧ qK h1 o = 16) (hthr : ∀ N h1, Thr0 N h1 → N = "java/lang/IndexOutOfBoundsException") : CtW E yL_cursor cL_cursor 4 (some .int) [(0, 9, 12, 13)] 8 b [.ref q, .int a1, .ref o] h (fun v h1 => ∃ c : Nat, v = some (.int (nI c)) ∧ ((c = 0 ∧ ∃ (u : Int32) (h0 : AH), Ret0 (some (.int u)) h0 ∧ h1 = sF h0 1600 o (.long u.toInt64)) ∨ (c = 1 ∧ Thr0 "java/lang/IndexOutOfBoundsException" h1))) := by
  refine CtW_of RL (by decide +kernel) rfl (Nat.le_of_ble_eq_true rfl) (fun Γ X ht nx Q => ?_)
  refine V_aload_n (pc := 0) X 2 dL_cursor_0 rfl ?_
  refine V_iconst (pc := 1) (v := 0) X dL_cursor_1 (by decide) ?_
  refine V_aload_n (pc := 2) X 0 dL_cursor_2 rfl ?_
  refine V_iload_n (pc := 3) X 1 dL_cursor_3 rfl ?_
  refine V_callV (pc := 4) X clk8 (by decide) hq _ M cw_L_66 (Q.room (by decide) (by decide)) rfl (Nat.le_of_ble_eq_true rfl) rfl (Nat.le_refl _) dL_cursor_4 (fun N h1 y => ?_) ?_
  · obtain rfl := hthr N h1 y
    refine VX_h X nx ht [] (0, 9, 12, 13) [] rfl (fun z hz => ?_) ⟨by decide, by decide⟩ (by decide) u867 (wnm 203 (by decide +kernel) (by decide +kernel)) (fun qe => ?_)
    · exact absurd hz List.not_mem_nil
    · refine V_astore_n (pc := 12) X [(3, .ref _), (0, .ref _), (1, .int _), (2, .ref _)] dL_cursor_12 rfl (by decide) rfl ?_
      refine V_iconst (pc := 13) (v := 1) X dL_cursor_13 (by decide) ?_
      refine V_iret (pc := 14) X Q rfl rfl dL_cursor_14 ?_
      exact ⟨1, rfl, Or.inr (⟨rfl, y⟩)⟩
  · rintro v1 h1 r
    obtain ⟨⟨u, rfl⟩, ko⟩ := hv v1 h1 r
    simp only [Option.toList_some, List.cons_append, List.nil_append]
    refine V_i2l (pc := 7) X dL_cursor_7 ?_
    refine V_last (pc := 8) X ko dL_cursor_8 ?_
    refine V_goto (pc := 9) X 15 dL_cursor_9 (by decide) ?_
    refine V_iconst (pc := 15) (v := 0) X dL_cursor_15 (by decide) ?_
    refine V_iret (pc := 16) X Q rfl rfl dL_cursor_16 ?_
    exact ⟨0, rfl, Or.inl ⟨rfl, u, h1, r, rfl⟩⟩
theorem l_mark {E : EV} {h : AH} {q o b : Nat} {a1 : Int32} {Ret0 : Option Value → AH → Prop} {Thr0 : String → AH → Prop} (hq : qK h q = 9) (M : Ct E yX8_mark cX8_mark 2 (some .int) 7 b [.ref q, .int a1] h Ret0 Thr0) (hv : ∀ v h1, Ret0 v h1 → (∃ u : Int32, v = some (.int u)) ∧ qK h1 o = 16) (hthr : ∀ N h1, Thr0 N h1 → N = "java/lang/IndexOutOfBoundsException") : CtW E yL_mark cL_mark 4 (some .int) [(0, 9, 12, 13)] 8 b [.ref q, .int a1, .ref o] h (fun v h1 => ∃ c : Nat, v = some (.int (nI c)) ∧ ((c = 0 ∧ ∃ (u : Int32) (h0 : AH), Ret0 (some (.int u)) h0 ∧ h1 = sF h0 1600 o (.long u.toInt64)) ∨ (c = 1 ∧ Thr0 "java/lang/IndexOutOfBoundsException" h1))) := by
  refine CtW_of RL (by decide +kernel) rfl (Nat.le_of_ble_eq_true rfl) (fun Γ X ht nx Q => ?_)
  refine V_aload_n (pc := 0) X 2 dL_mark_0 rfl ?_
  refine V_iconst (pc := 1) (v := 0) X dL_mark_1 (by decide) ?_
  refine V_aload_n (pc := 2) X 0 dL_mark_2 rfl ?_
  refine V_iload_n (pc := 3) X 1 dL_mark_3 rfl ?_
  refine V_callV (pc := 4) X clk8 (by decide) hq _ M cw_L_69 (Q.room (by decide) (by decide)) rfl (Nat.le_of_ble_eq_true rfl) rfl (Nat.le_refl _) dL_mark_4 (fun N h1 y => ?_) ?_
  · obtain rfl := hthr N h1 y
    refine VX_h X nx ht [] (0, 9, 12, 13) [] rfl (fun z hz => ?_) ⟨by decide, by decide⟩ (by decide) u867 (wnm 203 (by decide +kernel) (by decide +kernel)) (fun qe => ?_)
    · exact absurd hz List.not_mem_nil
    · refine V_astore_n (pc := 12) X [(3, .ref _), (0, .ref _), (1, .int _), (2, .ref _)] dL_mark_12 rfl (by decide) rfl ?_
      refine V_iconst (pc := 13) (v := 1) X dL_mark_13 (by decide) ?_
      refine V_iret (pc := 14) X Q rfl rfl dL_mark_14 ?_
      exact ⟨1, rfl, Or.inr (⟨rfl, y⟩)⟩
  · rintro v1 h1 r
    obtain ⟨⟨u, rfl⟩, ko⟩ := hv v1 h1 r
    simp only [Option.toList_some, List.cons_append, List.nil_append]
    refine V_i2l (pc := 7) X dL_mark_7 ?_
    refine V_last (pc := 8) X ko dL_mark_8 ?_
    refine V_goto (pc := 9) X 15 dL_mark_9 (by decide) ?_
    refine V_iconst (pc := 15) (v := 0) X dL_mark_15 (by decide) ?_
    refine V_iret (pc := 16) X Q rfl rfl dL_mark_16 ?_
    exact ⟨0, rfl, Or.inl ⟨rfl, u, h1, r, rfl⟩⟩
theorem l_revision {E : EV} {h : AH} {q o b : Nat} {a1 : Int32} {Ret0 : Option Value → AH → Prop} {Thr0 : String → AH → Prop} (hq : qK h q = 9) (M : Ct E yX8_revision cX8_revision 2 (some .int) 7 b [.ref q, .int a1] h Ret0 Thr0) (hv : ∀ v h1, Ret0 v h1 → (∃ u : Int32, v = some (.int u)) ∧ qK h1 o = 16) (hthr : ∀ N h1, Thr0 N h1 → N = "java/lang/IndexOutOfBoundsException") : CtW E yL_revision cL_revision 4 (some .int) [(0, 9, 12, 13)] 8 b [.ref q, .int a1, .ref o] h (fun v h1 => ∃ c : Nat, v = some (.int (nI c)) ∧ ((c = 0 ∧ ∃ (u : Int32) (h0 : AH), Ret0 (some (.int u)) h0 ∧ h1 = sF h0 1600 o (.long u.toInt64)) ∨ (c = 1 ∧ Thr0 "java/lang/IndexOutOfBoundsException" h1))) := by
  refine CtW_of RL (by decide +kernel) rfl (Nat.le_of_ble_eq_true rfl) (fun Γ X ht nx Q => ?_)
  refine V_aload_n (pc := 0) X 2 dL_revision_0 rfl ?_
  refine V_iconst (pc := 1) (v := 0) X dL_revision_1 (by decide) ?_
  refine V_aload_n (pc := 2) X 0 dL_revision_2 rfl ?_
  refine V_iload_n (pc := 3) X 1 dL_revision_3 rfl ?_
  refine V_callV (pc := 4) X clk8 (by decide) hq _ M cw_L_72 (Q.room (by decide) (by decide)) rfl (Nat.le_of_ble_eq_true rfl) rfl (Nat.le_refl _) dL_revision_4 (fun N h1 y => ?_) ?_
  · obtain rfl := hthr N h1 y
    refine VX_h X nx ht [] (0, 9, 12, 13) [] rfl (fun z hz => ?_) ⟨by decide, by decide⟩ (by decide) u867 (wnm 203 (by decide +kernel) (by decide +kernel)) (fun qe => ?_)
    · exact absurd hz List.not_mem_nil
    · refine V_astore_n (pc := 12) X [(3, .ref _), (0, .ref _), (1, .int _), (2, .ref _)] dL_revision_12 rfl (by decide) rfl ?_
      refine V_iconst (pc := 13) (v := 1) X dL_revision_13 (by decide) ?_
      refine V_iret (pc := 14) X Q rfl rfl dL_revision_14 ?_
      exact ⟨1, rfl, Or.inr (⟨rfl, y⟩)⟩
  · rintro v1 h1 r
    obtain ⟨⟨u, rfl⟩, ko⟩ := hv v1 h1 r
    simp only [Option.toList_some, List.cons_append, List.nil_append]
    refine V_i2l (pc := 7) X dL_revision_7 ?_
    refine V_last (pc := 8) X ko dL_revision_8 ?_
    refine V_goto (pc := 9) X 15 dL_revision_9 (by decide) ?_
    refine V_iconst (pc := 15) (v := 0) X dL_revision_15 (by decide) ?_
    refine V_iret (pc := 16) X Q rfl rfl dL_revision_16 ?_
    exact ⟨0, rfl, Or.inl ⟨rfl, u, h1, r, rfl⟩⟩
theorem l_sent {E : EV} {h : AH} {q o b : Nat} {a1 : Int32} {Ret0 : Option Value → AH → Prop} {Thr0 : String → AH → Prop} (hq : qK h q = 9) (M : Ct E yX8_sent cX8_sent 2 (some .int) 7 b [.ref q, .int a1] h Ret0 Thr0) (hv : ∀ v h1, Ret0 v h1 → (∃ u : Int32, v = some (.int u)) ∧ qK h1 o = 16) (hthr : ∀ N h1, Thr0 N h1 → N = "java/lang/IndexOutOfBoundsException") : CtW E yL_sent cL_sent 4 (some .int) [(0, 9, 12, 13)] 8 b [.ref q, .int a1, .ref o] h (fun v h1 => ∃ c : Nat, v = some (.int (nI c)) ∧ ((c = 0 ∧ ∃ (u : Int32) (h0 : AH), Ret0 (some (.int u)) h0 ∧ h1 = sF h0 1600 o (.long u.toInt64)) ∨ (c = 1 ∧ Thr0 "java/lang/IndexOutOfBoundsException" h1))) := by
  refine CtW_of RL (by decide +kernel) rfl (Nat.le_of_ble_eq_true rfl) (fun Γ X ht nx Q => ?_)
  refine V_aload_n (pc := 0) X 2 dL_sent_0 rfl ?_
  refine V_iconst (pc := 1) (v := 0) X dL_sent_1 (by decide) ?_
  refine V_aload_n (pc := 2) X 0 dL_sent_2 rfl ?_
  refine V_iload_n (pc := 3) X 1 dL_sent_3 rfl ?_
  refine V_callV (pc := 4) X clk8 (by decide) hq _ M cw_L_75 (Q.room (by decide) (by decide)) rfl (Nat.le_of_ble_eq_true rfl) rfl (Nat.le_refl _) dL_sent_4 (fun N h1 y => ?_) ?_
  · obtain rfl := hthr N h1 y
    refine VX_h X nx ht [] (0, 9, 12, 13) [] rfl (fun z hz => ?_) ⟨by decide, by decide⟩ (by decide) u867 (wnm 203 (by decide +kernel) (by decide +kernel)) (fun qe => ?_)
    · exact absurd hz List.not_mem_nil
    · refine V_astore_n (pc := 12) X [(3, .ref _), (0, .ref _), (1, .int _), (2, .ref _)] dL_sent_12 rfl (by decide) rfl ?_
      refine V_iconst (pc := 13) (v := 1) X dL_sent_13 (by decide) ?_
      refine V_iret (pc := 14) X Q rfl rfl dL_sent_14 ?_
      exact ⟨1, rfl, Or.inr (⟨rfl, y⟩)⟩
  · rintro v1 h1 r
    obtain ⟨⟨u, rfl⟩, ko⟩ := hv v1 h1 r
    simp only [Option.toList_some, List.cons_append, List.nil_append]
    refine V_i2l (pc := 7) X dL_sent_7 ?_
    refine V_last (pc := 8) X ko dL_sent_8 ?_
    refine V_goto (pc := 9) X 15 dL_sent_9 (by decide) ?_
    refine V_iconst (pc := 15) (v := 0) X dL_sent_15 (by decide) ?_
    refine V_iret (pc := 16) X Q rfl rfl dL_sent_16 ?_
    exact ⟨0, rfl, Or.inl ⟨rfl, u, h1, r, rfl⟩⟩
theorem l_waiting {E : EV} {h : AH} {q o b : Nat} {a1 : Int32} {Ret0 : Option Value → AH → Prop} {Thr0 : String → AH → Prop} (hq : qK h q = 9) (M : Ct E yX8_waiting cX8_waiting 2 (some .int) 7 b [.ref q, .int a1] h Ret0 Thr0) (hv : ∀ v h1, Ret0 v h1 → (∃ u : Int32, v = some (.int u)) ∧ qK h1 o = 16) (hthr : ∀ N h1, Thr0 N h1 → N = "java/lang/IndexOutOfBoundsException") : CtW E yL_waiting cL_waiting 4 (some .int) [(0, 9, 12, 13)] 8 b [.ref q, .int a1, .ref o] h (fun v h1 => ∃ c : Nat, v = some (.int (nI c)) ∧ ((c = 0 ∧ ∃ (u : Int32) (h0 : AH), Ret0 (some (.int u)) h0 ∧ h1 = sF h0 1600 o (.long u.toInt64)) ∨ (c = 1 ∧ Thr0 "java/lang/IndexOutOfBoundsException" h1))) := by
  refine CtW_of RL (by decide +kernel) rfl (Nat.le_of_ble_eq_true rfl) (fun Γ X ht nx Q => ?_)
  refine V_aload_n (pc := 0) X 2 dL_waiting_0 rfl ?_
  refine V_iconst (pc := 1) (v := 0) X dL_waiting_1 (by decide) ?_
  refine V_aload_n (pc := 2) X 0 dL_waiting_2 rfl ?_
  refine V_iload_n (pc := 3) X 1 dL_waiting_3 rfl ?_
  refine V_callV (pc := 4) X clk8 (by decide) hq _ M cw_L_78 (Q.room (by decide) (by decide)) rfl (Nat.le_of_ble_eq_true rfl) rfl (Nat.le_refl _) dL_waiting_4 (fun N h1 y => ?_) ?_
  · obtain rfl := hthr N h1 y
    refine VX_h X nx ht [] (0, 9, 12, 13) [] rfl (fun z hz => ?_) ⟨by decide, by decide⟩ (by decide) u867 (wnm 203 (by decide +kernel) (by decide +kernel)) (fun qe => ?_)
    · exact absurd hz List.not_mem_nil
    · refine V_astore_n (pc := 12) X [(3, .ref _), (0, .ref _), (1, .int _), (2, .ref _)] dL_waiting_12 rfl (by decide) rfl ?_
      refine V_iconst (pc := 13) (v := 1) X dL_waiting_13 (by decide) ?_
      refine V_iret (pc := 14) X Q rfl rfl dL_waiting_14 ?_
      exact ⟨1, rfl, Or.inr (⟨rfl, y⟩)⟩
  · rintro v1 h1 r
    obtain ⟨⟨u, rfl⟩, ko⟩ := hv v1 h1 r
    simp only [Option.toList_some, List.cons_append, List.nil_append]
    refine V_i2l (pc := 7) X dL_waiting_7 ?_
    refine V_last (pc := 8) X ko dL_waiting_8 ?_
    refine V_goto (pc := 9) X 15 dL_waiting_9 (by decide) ?_
    refine V_iconst (pc := 15) (v := 0) X dL_waiting_15 (by decide) ?_
    refine V_iret (pc := 16) X Q rfl rfl dL_waiting_16 ?_
    exact ⟨0, rfl, Or.inl ⟨rfl, u, h1, r, rfl⟩⟩
theorem l_runs {E : EV} {h : AH} {q o b : Nat} {a1 : Int32} {Ret0 : Option Value → AH → Prop} {Thr0 : String → AH → Prop} (hq : qK h q = 9) (M : Ct E yX8_runs cX8_runs 2 (some .int) 7 b [.ref q, .int a1] h Ret0 Thr0) (hv : ∀ v h1, Ret0 v h1 → (∃ u : Int32, v = some (.int u)) ∧ qK h1 o = 16) (hthr : ∀ N h1, Thr0 N h1 → N = "java/lang/IndexOutOfBoundsException") : CtW E yL_runs cL_runs 4 (some .int) [(0, 9, 12, 13)] 8 b [.ref q, .int a1, .ref o] h (fun v h1 => ∃ c : Nat, v = some (.int (nI c)) ∧ ((c = 0 ∧ ∃ (u : Int32) (h0 : AH), Ret0 (some (.int u)) h0 ∧ h1 = sF h0 1600 o (.long u.toInt64)) ∨ (c = 1 ∧ Thr0 "java/lang/IndexOutOfBoundsException" h1))) := by
  refine CtW_of RL (by decide +kernel) rfl (Nat.le_of_ble_eq_true rfl) (fun Γ X ht nx Q => ?_)
  refine V_aload_n (pc := 0) X 2 dL_runs_0 rfl ?_
  refine V_iconst (pc := 1) (v := 0) X dL_runs_1 (by decide) ?_
  refine V_aload_n (pc := 2) X 0 dL_runs_2 rfl ?_
  refine V_iload_n (pc := 3) X 1 dL_runs_3 rfl ?_
  refine V_callV (pc := 4) X clk8 (by decide) hq _ M cw_L_81 (Q.room (by decide) (by decide)) rfl (Nat.le_of_ble_eq_true rfl) rfl (Nat.le_refl _) dL_runs_4 (fun N h1 y => ?_) ?_
  · obtain rfl := hthr N h1 y
    refine VX_h X nx ht [] (0, 9, 12, 13) [] rfl (fun z hz => ?_) ⟨by decide, by decide⟩ (by decide) u867 (wnm 203 (by decide +kernel) (by decide +kernel)) (fun qe => ?_)
    · exact absurd hz List.not_mem_nil
    · refine V_astore_n (pc := 12) X [(3, .ref _), (0, .ref _), (1, .int _), (2, .ref _)] dL_runs_12 rfl (by decide) rfl ?_
      refine V_iconst (pc := 13) (v := 1) X dL_runs_13 (by decide) ?_
      refine V_iret (pc := 14) X Q rfl rfl dL_runs_14 ?_
      exact ⟨1, rfl, Or.inr (⟨rfl, y⟩)⟩
  · rintro v1 h1 r
    obtain ⟨⟨u, rfl⟩, ko⟩ := hv v1 h1 r
    simp only [Option.toList_some, List.cons_append, List.nil_append]
    refine V_i2l (pc := 7) X dL_runs_7 ?_
    refine V_last (pc := 8) X ko dL_runs_8 ?_
    refine V_goto (pc := 9) X 15 dL_runs_9 (by decide) ?_
    refine V_iconst (pc := 15) (v := 0) X dL_runs_15 (by decide) ?_
    refine V_iret (pc := 16) X Q rfl rfl dL_runs_16 ?_
    exact ⟨0, rfl, Or.inl ⟨rfl, u, h1, r, rfl⟩⟩
theorem l_up {E : EV} {h : AH} {q o b : Nat} {a1 : Int32} {Ret0 : Option Value → AH → Prop} {Thr0 : String → AH → Prop} (hq : qK h q = 9) (M : Ct E yX8_up cX8_up 2 (some .int) 7 b [.ref q, .int a1] h Ret0 Thr0) (hv : ∀ v h1, Ret0 v h1 → (∃ u : Int32, v = some (.int u)) ∧ qK h1 o = 16) (hthr : ∀ N h1, Thr0 N h1 → N = "java/lang/IndexOutOfBoundsException") : CtW E yL_up cL_up 4 (some .int) [(0, 9, 12, 13)] 8 b [.ref q, .int a1, .ref o] h (fun v h1 => ∃ c : Nat, v = some (.int (nI c)) ∧ ((c = 0 ∧ ∃ (u : Int32) (h0 : AH), Ret0 (some (.int u)) h0 ∧ h1 = sF h0 1600 o (.long u.toInt64)) ∨ (c = 1 ∧ Thr0 "java/lang/IndexOutOfBoundsException" h1))) := by
  refine CtW_of RL (by decide +kernel) rfl (Nat.le_of_ble_eq_true rfl) (fun Γ X ht nx Q => ?_)
  refine V_aload_n (pc := 0) X 2 dL_up_0 rfl ?_
  refine V_iconst (pc := 1) (v := 0) X dL_up_1 (by decide) ?_
  refine V_aload_n (pc := 2) X 0 dL_up_2 rfl ?_
  refine V_iload_n (pc := 3) X 1 dL_up_3 rfl ?_
  refine V_callV (pc := 4) X clk8 (by decide) hq _ M cw_L_84 (Q.room (by decide) (by decide)) rfl (Nat.le_of_ble_eq_true rfl) rfl (Nat.le_refl _) dL_up_4 (fun N h1 y => ?_) ?_
  · obtain rfl := hthr N h1 y
    refine VX_h X nx ht [] (0, 9, 12, 13) [] rfl (fun z hz => ?_) ⟨by decide, by decide⟩ (by decide) u867 (wnm 203 (by decide +kernel) (by decide +kernel)) (fun qe => ?_)
    · exact absurd hz List.not_mem_nil
    · refine V_astore_n (pc := 12) X [(3, .ref _), (0, .ref _), (1, .int _), (2, .ref _)] dL_up_12 rfl (by decide) rfl ?_
      refine V_iconst (pc := 13) (v := 1) X dL_up_13 (by decide) ?_
      refine V_iret (pc := 14) X Q rfl rfl dL_up_14 ?_
      exact ⟨1, rfl, Or.inr (⟨rfl, y⟩)⟩
  · rintro v1 h1 r
    obtain ⟨⟨u, rfl⟩, ko⟩ := hv v1 h1 r
    simp only [Option.toList_some, List.cons_append, List.nil_append]
    refine V_i2l (pc := 7) X dL_up_7 ?_
    refine V_last (pc := 8) X ko dL_up_8 ?_
    refine V_goto (pc := 9) X 15 dL_up_9 (by decide) ?_
    refine V_iconst (pc := 15) (v := 0) X dL_up_15 (by decide) ?_
    refine V_iret (pc := 16) X Q rfl rfl dL_up_16 ?_
    exact ⟨0, rfl, Or.inl ⟨rfl, u, h1, r, rfl⟩⟩
theorem l_down {E : EV} {h : AH} {q o b : Nat} {a1 : Int32} {Ret0 : Option Value → AH → Prop} {Thr0 : String → AH → Prop} (hq : qK h q = 9) (M : Ct E yX8_down cX8_down 2 (some .int) 7 b [.ref q, .int a1] h Ret0 Thr0) (hv : ∀ v h1, Ret0 v h1 → (∃ u : Int32, v = some (.int u)) ∧ qK h1 o = 16) (hthr : ∀ N h1, Thr0 N h1 → N = "java/lang/IndexOutOfBoundsException") : CtW E yL_down cL_down 4 (some .int) [(0, 9, 12, 13)] 8 b [.ref q, .int a1, .ref o] h (fun v h1 => ∃ c : Nat, v = some (.int (nI c)) ∧ ((c = 0 ∧ ∃ (u : Int32) (h0 : AH), Ret0 (some (.int u)) h0 ∧ h1 = sF h0 1600 o (.long u.toInt64)) ∨ (c = 1 ∧ Thr0 "java/lang/IndexOutOfBoundsException" h1))) := by
  refine CtW_of RL (by decide +kernel) rfl (Nat.le_of_ble_eq_true rfl) (fun Γ X ht nx Q => ?_)
  refine V_aload_n (pc := 0) X 2 dL_down_0 rfl ?_
  refine V_iconst (pc := 1) (v := 0) X dL_down_1 (by decide) ?_
  refine V_aload_n (pc := 2) X 0 dL_down_2 rfl ?_
  refine V_iload_n (pc := 3) X 1 dL_down_3 rfl ?_
  refine V_callV (pc := 4) X clk8 (by decide) hq _ M cw_L_87 (Q.room (by decide) (by decide)) rfl (Nat.le_of_ble_eq_true rfl) rfl (Nat.le_refl _) dL_down_4 (fun N h1 y => ?_) ?_
  · obtain rfl := hthr N h1 y
    refine VX_h X nx ht [] (0, 9, 12, 13) [] rfl (fun z hz => ?_) ⟨by decide, by decide⟩ (by decide) u867 (wnm 203 (by decide +kernel) (by decide +kernel)) (fun qe => ?_)
    · exact absurd hz List.not_mem_nil
    · refine V_astore_n (pc := 12) X [(3, .ref _), (0, .ref _), (1, .int _), (2, .ref _)] dL_down_12 rfl (by decide) rfl ?_
      refine V_iconst (pc := 13) (v := 1) X dL_down_13 (by decide) ?_
      refine V_iret (pc := 14) X Q rfl rfl dL_down_14 ?_
      exact ⟨1, rfl, Or.inr (⟨rfl, y⟩)⟩
  · rintro v1 h1 r
    obtain ⟨⟨u, rfl⟩, ko⟩ := hv v1 h1 r
    simp only [Option.toList_some, List.cons_append, List.nil_append]
    refine V_i2l (pc := 7) X dL_down_7 ?_
    refine V_last (pc := 8) X ko dL_down_8 ?_
    refine V_goto (pc := 9) X 15 dL_down_9 (by decide) ?_
    refine V_iconst (pc := 15) (v := 0) X dL_down_15 (by decide) ?_
    refine V_iret (pc := 16) X Q rfl rfl dL_down_16 ?_
    exact ⟨0, rfl, Or.inl ⟨rfl, u, h1, r, rfl⟩⟩
theorem l_kept {E : EV} {h : AH} {q o b : Nat} {a1 : Int32} {Ret0 : Option Value → AH → Prop} {Thr0 : String → AH → Prop} (hq : qK h q = 9) (M : Ct E yX8_kept cX8_kept 2 (some .int) 7 b [.ref q, .int a1] h Ret0 Thr0) (hv : ∀ v h1, Ret0 v h1 → (∃ u : Int32, v = some (.int u)) ∧ qK h1 o = 16) (hthr : ∀ N h1, Thr0 N h1 → N = "java/lang/IndexOutOfBoundsException") : CtW E yL_kept cL_kept 4 (some .int) [(0, 9, 12, 13)] 8 b [.ref q, .int a1, .ref o] h (fun v h1 => ∃ c : Nat, v = some (.int (nI c)) ∧ ((c = 0 ∧ ∃ (u : Int32) (h0 : AH), Ret0 (some (.int u)) h0 ∧ h1 = sF h0 1600 o (.long u.toInt64)) ∨ (c = 1 ∧ Thr0 "java/lang/IndexOutOfBoundsException" h1))) := by
  refine CtW_of RL (by decide +kernel) rfl (Nat.le_of_ble_eq_true rfl) (fun Γ X ht nx Q => ?_)
  refine V_aload_n (pc := 0) X 2 dL_kept_0 rfl ?_
  refine V_iconst (pc := 1) (v := 0) X dL_kept_1 (by decide) ?_
  refine V_aload_n (pc := 2) X 0 dL_kept_2 rfl ?_
  refine V_iload_n (pc := 3) X 1 dL_kept_3 rfl ?_
  refine V_callV (pc := 4) X clk8 (by decide) hq _ M cw_L_90 (Q.room (by decide) (by decide)) rfl (Nat.le_of_ble_eq_true rfl) rfl (Nat.le_refl _) dL_kept_4 (fun N h1 y => ?_) ?_
  · obtain rfl := hthr N h1 y
    refine VX_h X nx ht [] (0, 9, 12, 13) [] rfl (fun z hz => ?_) ⟨by decide, by decide⟩ (by decide) u867 (wnm 203 (by decide +kernel) (by decide +kernel)) (fun qe => ?_)
    · exact absurd hz List.not_mem_nil
    · refine V_astore_n (pc := 12) X [(3, .ref _), (0, .ref _), (1, .int _), (2, .ref _)] dL_kept_12 rfl (by decide) rfl ?_
      refine V_iconst (pc := 13) (v := 1) X dL_kept_13 (by decide) ?_
      refine V_iret (pc := 14) X Q rfl rfl dL_kept_14 ?_
      exact ⟨1, rfl, Or.inr (⟨rfl, y⟩)⟩
  · rintro v1 h1 r
    obtain ⟨⟨u, rfl⟩, ko⟩ := hv v1 h1 r
    simp only [Option.toList_some, List.cons_append, List.nil_append]
    refine V_i2l (pc := 7) X dL_kept_7 ?_
    refine V_last (pc := 8) X ko dL_kept_8 ?_
    refine V_goto (pc := 9) X 15 dL_kept_9 (by decide) ?_
    refine V_iconst (pc := 15) (v := 0) X dL_kept_15 (by decide) ?_
    refine V_iret (pc := 16) X Q rfl rfl dL_kept_16 ?_
    exact ⟨0, rfl, Or.inl ⟨rfl, u, h1, r, rfl⟩⟩
theorem l_historyEnd {E : EV} {h : AH} {q o b : Nat} {a1 : Int32} {Ret0 : Option Value → AH → Prop} {Thr0 : String → AH → Prop} (hq : qK h q = 9) (M : Ct E yX8_historyEnd cX8_historyEnd 2 (some .int) 7 b [.ref q, .int a1] h Ret0 Thr0) (hv : ∀ v h1, Ret0 v h1 → (∃ u : Int32, v = some (.int u)) ∧ qK h1 o = 16) (hthr : ∀ N h1, Thr0 N h1 → N = "java/util/NoSuchElementException") : CtW E yL_historyEnd cL_historyEnd 4 (some .int) [(0, 9, 12, 31)] 8 b [.ref q, .int a1, .ref o] h (fun v h1 => ∃ c : Nat, v = some (.int (nI c)) ∧ ((c = 0 ∧ ∃ (u : Int32) (h0 : AH), Ret0 (some (.int u)) h0 ∧ h1 = sF h0 1600 o (.long u.toInt64)) ∨ (c = 1 ∧ Thr0 "java/util/NoSuchElementException" h1))) := by
  refine CtW_of RL (by decide +kernel) rfl (Nat.le_of_ble_eq_true rfl) (fun Γ X ht nx Q => ?_)
  refine V_aload_n (pc := 0) X 2 dL_historyEnd_0 rfl ?_
  refine V_iconst (pc := 1) (v := 0) X dL_historyEnd_1 (by decide) ?_
  refine V_aload_n (pc := 2) X 0 dL_historyEnd_2 rfl ?_
  refine V_iload_n (pc := 3) X 1 dL_historyEnd_3 rfl ?_
  refine V_callV (pc := 4) X clk8 (by decide) hq _ M cw_L_93 (Q.room (by decide) (by decide)) rfl (Nat.le_of_ble_eq_true rfl) rfl (Nat.le_refl _) dL_historyEnd_4 (fun N h1 y => ?_) ?_
  · obtain rfl := hthr N h1 y
    refine VX_h X nx ht [] (0, 9, 12, 31) [] rfl (fun z hz => ?_) ⟨by decide, by decide⟩ (by decide) u993 (wnm 274 (by decide +kernel) (by decide +kernel)) (fun qe => ?_)
    · exact absurd hz List.not_mem_nil
    · refine V_astore_n (pc := 12) X [(3, .ref _), (0, .ref _), (1, .int _), (2, .ref _)] dL_historyEnd_12 rfl (by decide) rfl ?_
      refine V_iconst (pc := 13) (v := 1) X dL_historyEnd_13 (by decide) ?_
      refine V_iret (pc := 14) X Q rfl rfl dL_historyEnd_14 ?_
      exact ⟨1, rfl, Or.inr (⟨rfl, y⟩)⟩
  · rintro v1 h1 r
    obtain ⟨⟨u, rfl⟩, ko⟩ := hv v1 h1 r
    simp only [Option.toList_some, List.cons_append, List.nil_append]
    refine V_i2l (pc := 7) X dL_historyEnd_7 ?_
    refine V_last (pc := 8) X ko dL_historyEnd_8 ?_
    refine V_goto (pc := 9) X 15 dL_historyEnd_9 (by decide) ?_
    refine V_iconst (pc := 15) (v := 0) X dL_historyEnd_15 (by decide) ?_
    refine V_iret (pc := 16) X Q rfl rfl dL_historyEnd_16 ?_
    exact ⟨0, rfl, Or.inl ⟨rfl, u, h1, r, rfl⟩⟩
theorem l_historySize {E : EV} {h : AH} {q o b : Nat} {a1 : Int32} {Ret0 : Option Value → AH → Prop} {Thr0 : String → AH → Prop} (hq : qK h q = 9) (M : Ct E yX8_historySize cX8_historySize 2 (some .int) 7 b [.ref q, .int a1] h Ret0 Thr0) (hv : ∀ v h1, Ret0 v h1 → (∃ u : Int32, v = some (.int u)) ∧ qK h1 o = 16) (hthr : ∀ N h1, Thr0 N h1 → N = "java/util/NoSuchElementException") : CtW E yL_historySize cL_historySize 4 (some .int) [(0, 9, 12, 31)] 8 b [.ref q, .int a1, .ref o] h (fun v h1 => ∃ c : Nat, v = some (.int (nI c)) ∧ ((c = 0 ∧ ∃ (u : Int32) (h0 : AH), Ret0 (some (.int u)) h0 ∧ h1 = sF h0 1600 o (.long u.toInt64)) ∨ (c = 1 ∧ Thr0 "java/util/NoSuchElementException" h1))) := by
  refine CtW_of RL (by decide +kernel) rfl (Nat.le_of_ble_eq_true rfl) (fun Γ X ht nx Q => ?_)
  refine V_aload_n (pc := 0) X 2 dL_historySize_0 rfl ?_
  refine V_iconst (pc := 1) (v := 0) X dL_historySize_1 (by decide) ?_
  refine V_aload_n (pc := 2) X 0 dL_historySize_2 rfl ?_
  refine V_iload_n (pc := 3) X 1 dL_historySize_3 rfl ?_
  refine V_callV (pc := 4) X clk8 (by decide) hq _ M cw_L_96 (Q.room (by decide) (by decide)) rfl (Nat.le_of_ble_eq_true rfl) rfl (Nat.le_refl _) dL_historySize_4 (fun N h1 y => ?_) ?_
  · obtain rfl := hthr N h1 y
    refine VX_h X nx ht [] (0, 9, 12, 31) [] rfl (fun z hz => ?_) ⟨by decide, by decide⟩ (by decide) u993 (wnm 274 (by decide +kernel) (by decide +kernel)) (fun qe => ?_)
    · exact absurd hz List.not_mem_nil
    · refine V_astore_n (pc := 12) X [(3, .ref _), (0, .ref _), (1, .int _), (2, .ref _)] dL_historySize_12 rfl (by decide) rfl ?_
      refine V_iconst (pc := 13) (v := 1) X dL_historySize_13 (by decide) ?_
      refine V_iret (pc := 14) X Q rfl rfl dL_historySize_14 ?_
      exact ⟨1, rfl, Or.inr (⟨rfl, y⟩)⟩
  · rintro v1 h1 r
    obtain ⟨⟨u, rfl⟩, ko⟩ := hv v1 h1 r
    simp only [Option.toList_some, List.cons_append, List.nil_append]
    refine V_i2l (pc := 7) X dL_historySize_7 ?_
    refine V_last (pc := 8) X ko dL_historySize_8 ?_
    refine V_goto (pc := 9) X 15 dL_historySize_9 (by decide) ?_
    refine V_iconst (pc := 15) (v := 0) X dL_historySize_15 (by decide) ?_
    refine V_iret (pc := 16) X Q rfl rfl dL_historySize_16 ?_
    exact ⟨0, rfl, Or.inl ⟨rfl, u, h1, r, rfl⟩⟩
theorem l_historyKind {E : EV} {h : AH} {q o b : Nat} {a1 a2 : Int32} {Ret0 : Option Value → AH → Prop} {Thr0 : String → AH → Prop} (hq : qK h q = 9) (M : Ct E yX8_historyKind cX8_historyKind 3 (some .char) 8 b [.ref q, .int a1, .int a2] h Ret0 Thr0) (hv : ∀ v h1, Ret0 v h1 → (∃ u : Int32, v = some (.int u)) ∧ qK h1 o = 16) (hthr : ∀ N h1, Thr0 N h1 → N = "java/util/NoSuchElementException" ∨ N = "java/lang/IndexOutOfBoundsException") : CtW E yL_historyKind cL_historyKind 5 (some .int) [(0, 10, 13, 31), (0, 10, 17, 13)] 9 b [.ref q, .int a1, .int a2, .ref o] h (fun v h1 => ∃ c : Nat, v = some (.int (nI c)) ∧ ((c = 0 ∧ ∃ (u : Int32) (h0 : AH), Ret0 (some (.int u)) h0 ∧ h1 = sF h0 1600 o (.long u.toInt64)) ∨ (c = 1 ∧ Thr0 "java/util/NoSuchElementException" h1) ∨ (c = 2 ∧ Thr0 "java/lang/IndexOutOfBoundsException" h1))) := by
  refine CtW_of RL (by decide +kernel) rfl (Nat.le_of_ble_eq_true rfl) (fun Γ X ht nx Q => ?_)
  refine V_aload_n (pc := 0) X 3 dL_historyKind_0 rfl ?_
  refine V_iconst (pc := 1) (v := 0) X dL_historyKind_1 (by decide) ?_
  refine V_aload_n (pc := 2) X 0 dL_historyKind_2 rfl ?_
  refine V_iload_n (pc := 3) X 1 dL_historyKind_3 rfl ?_
  refine V_iload_n (pc := 4) X 2 dL_historyKind_4 rfl ?_
  refine V_callV (pc := 5) X clk8 (by decide) hq _ M cw_L_99 (Q.room (by decide) (by decide)) rfl (Nat.le_of_ble_eq_true rfl) rfl (Nat.le_refl _) dL_historyKind_5 (fun N h1 y => ?_) ?_
  · rcases hthr N h1 y with rfl | rfl
    · refine VX_h X nx ht [] (0, 10, 13, 31) [(0, 10, 17, 13)] rfl (fun z hz => ?_) ⟨by decide, by decide⟩ (by decide) u993 (wnm 274 (by decide +kernel) (by decide +kernel)) (fun qe => ?_)
      · exact absurd hz List.not_mem_nil
      · refine V_astore (pc := 13) X [(4, .ref _), (0, .ref _), (1, .int _), (2, .int _), (3, .ref _)] dL_historyKind_13 (by decide) rfl ?_
        refine V_iconst (pc := 15) (v := 1) X dL_historyKind_15 (by decide) ?_
        refine V_iret (pc := 16) X Q rfl rfl dL_historyKind_16 ?_
        exact ⟨1, rfl, Or.inr (Or.inl ⟨rfl, y⟩)⟩
    · refine VX_h X nx ht [(0, 10, 13, 31)] (0, 10, 17, 13) [] rfl (fun z hz => ?_) ⟨by decide, by decide⟩ (by decide) u867 (wnm 203 (by decide +kernel) (by decide +kernel)) (fun qe => ?_)
      · simp only [List.mem_cons, List.not_mem_nil, or_false] at hz
        subst hz
        exact ⟨by decide, _, u993, by decide⟩
      · refine V_astore (pc := 17) X [(4, .ref _), (0, .ref _), (1, .int _), (2, .int _), (3, .ref _)] dL_historyKind_17 (by decide) rfl ?_
        refine V_iconst (pc := 19) (v := 2) X dL_historyKind_19 (by decide) ?_
        refine V_iret (pc := 20) X Q rfl rfl dL_historyKind_20 ?_
        exact ⟨2, rfl, Or.inr (Or.inr (⟨rfl, y⟩))⟩
  · rintro v1 h1 r
    obtain ⟨⟨u, rfl⟩, ko⟩ := hv v1 h1 r
    simp only [Option.toList_some, List.cons_append, List.nil_append]
    refine V_i2l (pc := 8) X dL_historyKind_8 ?_
    refine V_last (pc := 9) X ko dL_historyKind_9 ?_
    refine V_goto (pc := 10) X 21 dL_historyKind_10 (by decide) ?_
    refine V_iconst (pc := 21) (v := 0) X dL_historyKind_21 (by decide) ?_
    refine V_iret (pc := 22) X Q rfl rfl dL_historyKind_22 ?_
    exact ⟨0, rfl, Or.inl ⟨rfl, u, h1, r, rfl⟩⟩
theorem l_historyPosition {E : EV} {h : AH} {q o b : Nat} {a1 a2 : Int32} {Ret0 : Option Value → AH → Prop} {Thr0 : String → AH → Prop} (hq : qK h q = 9) (M : Ct E yX8_historyPosition cX8_historyPosition 3 (some .int) 8 b [.ref q, .int a1, .int a2] h Ret0 Thr0) (hv : ∀ v h1, Ret0 v h1 → (∃ u : Int32, v = some (.int u)) ∧ qK h1 o = 16) (hthr : ∀ N h1, Thr0 N h1 → N = "java/util/NoSuchElementException" ∨ N = "java/lang/IndexOutOfBoundsException") : CtW E yL_historyPosition cL_historyPosition 5 (some .int) [(0, 10, 13, 31), (0, 10, 17, 13)] 9 b [.ref q, .int a1, .int a2, .ref o] h (fun v h1 => ∃ c : Nat, v = some (.int (nI c)) ∧ ((c = 0 ∧ ∃ (u : Int32) (h0 : AH), Ret0 (some (.int u)) h0 ∧ h1 = sF h0 1600 o (.long u.toInt64)) ∨ (c = 1 ∧ Thr0 "java/util/NoSuchElementException" h1) ∨ (c = 2 ∧ Thr0 "java/lang/IndexOutOfBoundsException" h1))) := by
  refine CtW_of RL (by decide +kernel) rfl (Nat.le_of_ble_eq_true rfl) (fun Γ X ht nx Q => ?_)
  refine V_aload_n (pc := 0) X 3 dL_historyPosition_0 rfl ?_
  refine V_iconst (pc := 1) (v := 0) X dL_historyPosition_1 (by decide) ?_
  refine V_aload_n (pc := 2) X 0 dL_historyPosition_2 rfl ?_
  refine V_iload_n (pc := 3) X 1 dL_historyPosition_3 rfl ?_
  refine V_iload_n (pc := 4) X 2 dL_historyPosition_4 rfl ?_
  refine V_callV (pc := 5) X clk8 (by decide) hq _ M cw_L_102 (Q.room (by decide) (by decide)) rfl (Nat.le_of_ble_eq_true rfl) rfl (Nat.le_refl _) dL_historyPosition_5 (fun N h1 y => ?_) ?_
  · rcases hthr N h1 y with rfl | rfl
    · refine VX_h X nx ht [] (0, 10, 13, 31) [(0, 10, 17, 13)] rfl (fun z hz => ?_) ⟨by decide, by decide⟩ (by decide) u993 (wnm 274 (by decide +kernel) (by decide +kernel)) (fun qe => ?_)
      · exact absurd hz List.not_mem_nil
      · refine V_astore (pc := 13) X [(4, .ref _), (0, .ref _), (1, .int _), (2, .int _), (3, .ref _)] dL_historyPosition_13 (by decide) rfl ?_
        refine V_iconst (pc := 15) (v := 1) X dL_historyPosition_15 (by decide) ?_
        refine V_iret (pc := 16) X Q rfl rfl dL_historyPosition_16 ?_
        exact ⟨1, rfl, Or.inr (Or.inl ⟨rfl, y⟩)⟩
    · refine VX_h X nx ht [(0, 10, 13, 31)] (0, 10, 17, 13) [] rfl (fun z hz => ?_) ⟨by decide, by decide⟩ (by decide) u867 (wnm 203 (by decide +kernel) (by decide +kernel)) (fun qe => ?_)
      · simp only [List.mem_cons, List.not_mem_nil, or_false] at hz
        subst hz
        exact ⟨by decide, _, u993, by decide⟩
      · refine V_astore (pc := 17) X [(4, .ref _), (0, .ref _), (1, .int _), (2, .int _), (3, .ref _)] dL_historyPosition_17 (by decide) rfl ?_
        refine V_iconst (pc := 19) (v := 2) X dL_historyPosition_19 (by decide) ?_
        refine V_iret (pc := 20) X Q rfl rfl dL_historyPosition_20 ?_
        exact ⟨2, rfl, Or.inr (Or.inr (⟨rfl, y⟩))⟩
  · rintro v1 h1 r
    obtain ⟨⟨u, rfl⟩, ko⟩ := hv v1 h1 r
    simp only [Option.toList_some, List.cons_append, List.nil_append]
    refine V_i2l (pc := 8) X dL_historyPosition_8 ?_
    refine V_last (pc := 9) X ko dL_historyPosition_9 ?_
    refine V_goto (pc := 10) X 21 dL_historyPosition_10 (by decide) ?_
    refine V_iconst (pc := 21) (v := 0) X dL_historyPosition_21 (by decide) ?_
    refine V_iret (pc := 22) X Q rfl rfl dL_historyPosition_22 ?_
    exact ⟨0, rfl, Or.inl ⟨rfl, u, h1, r, rfl⟩⟩
theorem l_ownShare {E : EV} {h : AH} {q o b : Nat} {a1 : Int32} {Ret0 : Option Value → AH → Prop} {Thr0 : String → AH → Prop} (hq : qK h q = 9) (M : Ct E yX8_ownShare cX8_ownShare 4 (some .float) 7 b [.ref q, .int a1] h Ret0 Thr0) (hv : ∀ v h1, Ret0 v h1 → (∃ u : UInt32, v = some (.float u)) ∧ qK h1 o = 17) (hn : ∀ u h1, Ret0 (some (.float u)) h1 → vf_n64 (FP.f2d u)) (hthr : ∀ N h1, Thr0 N h1 → N = "java/lang/IndexOutOfBoundsException" ∨ N = "java/lang/ArithmeticException") : CtW E yL_ownShare cL_ownShare 4 (some .int) [(0, 9, 12, 13), (0, 9, 15, 109)] 8 b [.ref q, .int a1, .ref o] h (fun v h1 => ∃ c : Nat, v = some (.int (nI c)) ∧ ((c = 0 ∧ ∃ (u : UInt32) (h0 : AH), Ret0 (some (.float u)) h0 ∧ h1 = sF h0 1700 o (.double (FP.f2d u))) ∨ (c = 1 ∧ Thr0 "java/lang/IndexOutOfBoundsException" h1) ∨ (c = 2 ∧ Thr0 "java/lang/ArithmeticException" h1))) := by
  refine CtW_of RL (by decide +kernel) rfl (Nat.le_of_ble_eq_true rfl) (fun Γ X ht nx Q => ?_)
  refine V_aload_n (pc := 0) X 2 dL_ownShare_0 rfl ?_
  refine V_iconst (pc := 1) (v := 0) X dL_ownShare_1 (by decide) ?_
  refine V_aload_n (pc := 2) X 0 dL_ownShare_2 rfl ?_
  refine V_iload_n (pc := 3) X 1 dL_ownShare_3 rfl ?_
  refine V_callV (pc := 4) X clk8 (by decide) hq _ M cw_L_105 (Q.room (by decide) (by decide)) rfl (Nat.le_of_ble_eq_true rfl) rfl (Nat.le_refl _) dL_ownShare_4 (fun N h1 y => ?_) ?_
  · rcases hthr N h1 y with rfl | rfl
    · refine VX_h X nx ht [] (0, 9, 12, 13) [(0, 9, 15, 109)] rfl (fun z hz => ?_) ⟨by decide, by decide⟩ (by decide) u867 (wnm 203 (by decide +kernel) (by decide +kernel)) (fun qe => ?_)
      · exact absurd hz List.not_mem_nil
      · refine V_astore_n (pc := 12) X [(3, .ref _), (0, .ref _), (1, .int _), (2, .ref _)] dL_ownShare_12 rfl (by decide) rfl ?_
        refine V_iconst (pc := 13) (v := 1) X dL_ownShare_13 (by decide) ?_
        refine V_iret (pc := 14) X Q rfl rfl dL_ownShare_14 ?_
        exact ⟨1, rfl, Or.inr (Or.inl ⟨rfl, y⟩)⟩
    · refine VX_h X nx ht [(0, 9, 12, 13)] (0, 9, 15, 109) [] rfl (fun z hz => ?_) ⟨by decide, by decide⟩ (by decide) u1193 (wnm 1205 (by decide +kernel) (by decide +kernel)) (fun qe => ?_)
      · simp only [List.mem_cons, List.not_mem_nil, or_false] at hz
        subst hz
        exact ⟨by decide, _, u867, by decide⟩
      · refine V_astore_n (pc := 15) X [(3, .ref _), (0, .ref _), (1, .int _), (2, .ref _)] dL_ownShare_15 rfl (by decide) rfl ?_
        refine V_iconst (pc := 16) (v := 2) X dL_ownShare_16 (by decide) ?_
        refine V_iret (pc := 17) X Q rfl rfl dL_ownShare_17 ?_
        exact ⟨2, rfl, Or.inr (Or.inr (⟨rfl, y⟩))⟩
  · rintro v1 h1 r
    obtain ⟨⟨u, rfl⟩, ko⟩ := hv v1 h1 r
    simp only [Option.toList_some, List.cons_append, List.nil_append]
    refine V_f2d (pc := 7) X dL_ownShare_7 (hn _ _ r) ?_
    refine V_dast (pc := 8) X ko dL_ownShare_8 ?_
    refine V_goto (pc := 9) X 18 dL_ownShare_9 (by decide) ?_
    refine V_iconst (pc := 18) (v := 0) X dL_ownShare_18 (by decide) ?_
    refine V_iret (pc := 19) X Q rfl rfl dL_ownShare_19 ?_
    exact ⟨0, rfl, Or.inl ⟨rfl, u, h1, r, rfl⟩⟩
theorem l_meanRun {E : EV} {h : AH} {q o b : Nat} {Ret0 : Option Value → AH → Prop} {Thr0 : String → AH → Prop} (hq : qK h q = 9) (M : Ct E yX8_meanRun cX8_meanRun 2 (some .double) 7 b [.ref q] h Ret0 Thr0) (hv : ∀ v h1, Ret0 v h1 → (∃ u : UInt64, v = some (.double u)) ∧ qK h1 o = 17) (hthr : ∀ N h1, Thr0 N h1 → N = "java/lang/ArithmeticException") : CtW E yL_meanRun cL_meanRun 3 (some .int) [(0, 7, 10, 109)] 8 b [.ref q, .ref o] h (fun v h1 => ∃ c : Nat, v = some (.int (nI c)) ∧ ((c = 0 ∧ ∃ (u : UInt64) (h0 : AH), Ret0 (some (.double u)) h0 ∧ h1 = sF h0 1700 o (.double u)) ∨ (c = 1 ∧ Thr0 "java/lang/ArithmeticException" h1))) := by
  refine CtW_of RL (by decide +kernel) rfl (Nat.le_of_ble_eq_true rfl) (fun Γ X ht nx Q => ?_)
  refine V_aload_n (pc := 0) X 1 dL_meanRun_0 rfl ?_
  refine V_iconst (pc := 1) (v := 0) X dL_meanRun_1 (by decide) ?_
  refine V_aload_n (pc := 2) X 0 dL_meanRun_2 rfl ?_
  refine V_callV (pc := 3) X clk8 (by decide) hq _ M cw_L_111 (Q.room (by decide) (by decide)) rfl (Nat.le_of_ble_eq_true rfl) rfl (Nat.le_refl _) dL_meanRun_3 (fun N h1 y => ?_) ?_
  · obtain rfl := hthr N h1 y
    refine VX_h X nx ht [] (0, 7, 10, 109) [] rfl (fun z hz => ?_) ⟨by decide, by decide⟩ (by decide) u1193 (wnm 1205 (by decide +kernel) (by decide +kernel)) (fun qe => ?_)
    · exact absurd hz List.not_mem_nil
    · refine V_astore_n (pc := 10) X [(2, .ref _), (0, .ref _), (1, .ref _)] dL_meanRun_10 rfl (by decide) rfl ?_
      refine V_iconst (pc := 11) (v := 1) X dL_meanRun_11 (by decide) ?_
      refine V_iret (pc := 12) X Q rfl rfl dL_meanRun_12 ?_
      exact ⟨1, rfl, Or.inr (⟨rfl, y⟩)⟩
  · rintro v1 h1 r
    obtain ⟨⟨u, rfl⟩, ko⟩ := hv v1 h1 r
    simp only [Option.toList_some, List.cons_append, List.nil_append]
    refine V_dast (pc := 6) X ko dL_meanRun_6 ?_
    refine V_goto (pc := 7) X 13 dL_meanRun_7 (by decide) ?_
    refine V_iconst (pc := 13) (v := 0) X dL_meanRun_13 (by decide) ?_
    refine V_iret (pc := 14) X Q rfl rfl dL_meanRun_14 ?_
    exact ⟨0, rfl, Or.inl ⟨rfl, u, h1, r, rfl⟩⟩
theorem l_textNumber {E : EV} {h : AH} {q o b : Nat} {a1 : Int32} {Ret0 : Option Value → AH → Prop} {Thr0 : String → AH → Prop} (hq : qK h q = 9) (M : Ct E yX8_textNumber cX8_textNumber 2 (some .long) 7 b [.ref q, .int a1] h Ret0 Thr0) (hv : ∀ v h1, Ret0 v h1 → (∃ u : Int64, v = some (.long u)) ∧ qK h1 o = 16) (hthr : ∀ N h1, Thr0 N h1 → N = "java/lang/IndexOutOfBoundsException") : CtW E yL_textNumber cL_textNumber 4 (some .int) [(0, 8, 11, 13)] 8 b [.ref q, .int a1, .ref o] h (fun v h1 => ∃ c : Nat, v = some (.int (nI c)) ∧ ((c = 0 ∧ ∃ (u : Int64) (h0 : AH), Ret0 (some (.long u)) h0 ∧ h1 = sF h0 1600 o (.long u)) ∨ (c = 1 ∧ Thr0 "java/lang/IndexOutOfBoundsException" h1))) := by
  refine CtW_of RL (by decide +kernel) rfl (Nat.le_of_ble_eq_true rfl) (fun Γ X ht nx Q => ?_)
  refine V_aload_n (pc := 0) X 2 dL_textNumber_0 rfl ?_
  refine V_iconst (pc := 1) (v := 0) X dL_textNumber_1 (by decide) ?_
  refine V_aload_n (pc := 2) X 0 dL_textNumber_2 rfl ?_
  refine V_iload_n (pc := 3) X 1 dL_textNumber_3 rfl ?_
  refine V_callV (pc := 4) X clk8 (by decide) hq _ M cw_L_115 (Q.room (by decide) (by decide)) rfl (Nat.le_of_ble_eq_true rfl) rfl (Nat.le_refl _) dL_textNumber_4 (fun N h1 y => ?_) ?_
  · obtain rfl := hthr N h1 y
    refine VX_h X nx ht [] (0, 8, 11, 13) [] rfl (fun z hz => ?_) ⟨by decide, by decide⟩ (by decide) u867 (wnm 203 (by decide +kernel) (by decide +kernel)) (fun qe => ?_)
    · exact absurd hz List.not_mem_nil
    · refine V_astore_n (pc := 11) X [(3, .ref _), (0, .ref _), (1, .int _), (2, .ref _)] dL_textNumber_11 rfl (by decide) rfl ?_
      refine V_iconst (pc := 12) (v := 1) X dL_textNumber_12 (by decide) ?_
      refine V_iret (pc := 13) X Q rfl rfl dL_textNumber_13 ?_
      exact ⟨1, rfl, Or.inr (⟨rfl, y⟩)⟩
  · rintro v1 h1 r
    obtain ⟨⟨u, rfl⟩, ko⟩ := hv v1 h1 r
    simp only [Option.toList_some, List.cons_append, List.nil_append]
    refine V_last (pc := 7) X ko dL_textNumber_7 ?_
    refine V_goto (pc := 8) X 14 dL_textNumber_8 (by decide) ?_
    refine V_iconst (pc := 14) (v := 0) X dL_textNumber_14 (by decide) ?_
    refine V_iret (pc := 15) X Q rfl rfl dL_textNumber_15 ?_
    exact ⟨0, rfl, Or.inl ⟨rfl, u, h1, r, rfl⟩⟩
