/-! THE CALLS THAT WRITE -/
theorem x_insert {E : EV} {h : AH} {q : Nat} {G : GQ} {s : SQ} (z : RC h q G s) (w : WS' s) {x p d : Int32} : Ct E yX8_insert cX8_insert 5 (some .int) 12 1332 [.ref q, .int x, .int p, .int d] h (fun v h1 => (∃ e i c : Nat, e ≤ 1 ∧ x = nI e ∧ p = nI i ∧ d = nI c ∧ i ≤ (eX (zE s e)).length ∧ 32 ≤ c ∧ c ≤ 126 ∧ (eX (zE s e)).length < 60 ∧ zM s < 200 ∧ v = some (.int (nI (eX (zE (sIns s e i c) e)).length)) ∧ ∃ la, RC h1 q (la, G.2) (sIns s e i c)) ∧ FC h h1) (fun N h1 => ((N = "java/lang/IndexOutOfBoundsException" ∧ ¬ (x = 0 ∨ x = 1)) ∨ (∃ e : Nat, e ≤ 1 ∧ x = nI e ∧ ((N = "java/lang/IllegalArgumentException" ∧ ¬ ((¬ p < 0 ∧ p ≤ nI (eX (zE s e)).length) ∧ (¬ d < 32 ∧ d ≤ 126))) ∨ (N = "java/lang/IllegalStateException" ∧ (¬ p < 0 ∧ p ≤ nI (eX (zE s e)).length) ∧ (¬ d < 32 ∧ d ≤ 126) ∧ ¬ ((eX (zE s e)).length < 60 ∧ zM s < 200))))) ∧ h1 = h) := by
  refine Ct_of RX8 (by decide +kernel) rfl (Nat.le_of_ble_eq_true rfl) (fun Γ X nt Q hin => ?_)
  refine V_aload_n (pc := 0) X 0 dX8_insert_0 rfl ?_
  refine V_iload_n (pc := 1) X 1 dX8_insert_1 rfl ?_
  refine V_callV (pc := 2) X clk8 (by decide) z.k _ (c_endN z) cw_X8_46 (Q.room (by decide) (by decide)) rfl (Nat.le_of_ble_eq_true rfl) rfl (by omega) dX8_insert_2 (fun N h9 y => VX_out X Q nt ⟨Or.inl ⟨y.1, y.2.1⟩, y.2.2⟩) ?_
  rintro v2 h2 ⟨⟨e, he, rfl, rfl⟩, e2⟩
  rw [e2]
  simp only [Option.toList_some, List.cons_append, List.nil_append]
  obtain ⟨c0, hx, hc0⟩ := z.tx he
  have hl : (eX (zE s e)).length ≤ 200 := (w.1 e he).1.1.1
  refine V_astore (pc := 5) X [(4, .ref _), (0, .ref _), (1, .int _), (2, .int _), (3, .int _)] dX8_insert_5 (by decide) rfl ?_
  refine V_aload (pc := 7) X 0 dX8_insert_7 rfl ?_
  refine V_get (pc := 9) X fl_X8_50 dX8_insert_9 (z.es he).1 ((z.es he).f 1) ?_
  refine V_iload_n (pc := 12) X 3 dX8_insert_12 rfl ?_
  refine V_callV (pc := 13) X clk7 (by decide) hx.1 _ (c_hasP hx) cw_X8_53 (Q.room (by decide) (by decide)) rfl (Nat.le_of_ble_eq_true rfl) rfl (by omega) dX8_insert_13 (fun _ _ z => z.elim) ?_
  rintro v13 h13 ⟨rfl, e13⟩
  rw [e13]
  simp only [Option.toList_some, List.cons_append, List.nil_append]
  refine V_if_ne (pc := 16) X 29 dX8_insert_16 (by decide) (fun c16 => ?_) (fun c16 => ?_)
  · have hp : (¬ p < 0 ∧ p ≤ nI (eX (zE s e)).length) := by
      by_cases y : ¬ p < 0 ∧ p ≤ nI (eX (zE s e)).length
      · exact y
      · rw [if_neg y] at c16; exact absurd rfl c16
    obtain ⟨i, hi, rfl⟩ := nI_of hp.1
    have hil : i ≤ (eX (zE s e)).length := (nI_leI (by omega) (by omega)).mp hp.2
    refine V_iload_n (pc := 29) X 4 dX8_insert_29 rfl ?_
    refine V_callS (pc := 30) X _ c_reqW cw_X8_64 (Q.room (by decide) (by decide)) rfl (Nat.le_of_ble_eq_true rfl) rfl (by omega) dX8_insert_30 (fun N h9 y => VX_out X Q nt ⟨Or.inr ⟨e, he, rfl, Or.inl ⟨y.1, fun u => y.2.1 u.2⟩⟩, y.2.2⟩) ?_
    rintro v30 h30 ⟨rfl, e30, d1, d2⟩
    rw [e30]
    simp only [Option.toList_none, List.nil_append]
    have d0 : ¬ d < 0 := fun y => d1 (Int32.lt_trans y (by decide))
    obtain ⟨c, hc, rfl⟩ := nI_of d0
    have hc1 : c ≤ 126 := (nI_leI (b := 126) (by omega) (by decide)).mp d2
    have hc2 : 32 ≤ c := by
      rcases Nat.lt_or_ge c 32 with y | y
      · exact absurd (nI_lt (b := 32) y (by decide)) d1
      · exact y
    refine V_aload_n (pc := 33) X 1 dX8_insert_33 rfl ?_
    refine V_aload (pc := 34) X 0 dX8_insert_34 rfl ?_
    refine V_callV (pc := 36) X clk8 (by decide) z.k _ (c_reqR z w he) cw_X8_68 (Q.room (by decide) (by decide)) rfl (Nat.le_of_ble_eq_true rfl) rfl (by omega) dX8_insert_36 (fun N h9 y => VX_out X Q nt ⟨Or.inr ⟨e, he, rfl, Or.inr ⟨y.1, hp, ⟨d1, d2⟩, y.2.1⟩⟩, y.2.2⟩) ?_
    rintro v36 h36 ⟨rfl, e36, r1, r2⟩
    rw [e36]
    simp only [Option.toList_none, List.nil_append]
    refine V_aload_n (pc := 39) X 1 dX8_insert_39 rfl ?_
    refine V_aload (pc := 40) X 0 dX8_insert_40 rfl ?_
    refine V_iload_n (pc := 42) X 3 dX8_insert_42 rfl ?_
    refine V_iload_n (pc := 43) X 4 dX8_insert_43 rfl ?_
    refine V_callV (pc := 44) X clk8 (by decide) z.k _ (c_writeKept z w he (p := i) (c := c) (by omega) (by omega)) cw_X8_72 (Q.room (by decide) (by decide)) rfl (Nat.le_of_ble_eq_true rfl) rfl (by omega) dX8_insert_44 (fun _ _ z => z.elim) ?_
    rintro v44 h44 ⟨rfl, ⟨la, z5⟩, fc⟩
    simp only [Option.toList_none, List.nil_append]
    obtain ⟨c1, hx5, -⟩ := z5.tx he
    refine V_aload (pc := 47) X 0 dX8_insert_47 rfl ?_
    refine V_get (pc := 49) X fl_X8_50 dX8_insert_49 (z5.es he).1 ((z5.es he).f 1) ?_
    refine V_callV (pc := 52) X clk7 (by decide) hx5.1 _ (c_tsize hx5) cw_X8_76 (Q.room (by decide) (by decide)) rfl (Nat.le_of_ble_eq_true rfl) rfl (by omega) dX8_insert_52 (fun _ _ z => z.elim) ?_
    rintro v52 h52 ⟨rfl, e52⟩
    rw [e52]
    simp only [Option.toList_some, List.cons_append, List.nil_append]
    refine V_iret (pc := 55) X Q rfl rfl dX8_insert_55 ?_
    exact ⟨⟨e, i, c, he, rfl, rfl, rfl, hil, hc2, hc1, r1, r2, rfl, la, z5⟩, fc⟩
  · have hp : ¬ (¬ p < 0 ∧ p ≤ nI (eX (zE s e)).length) := fun y => by rw [if_pos y] at c16; exact absurd c16 (by decide)
    exact V_throw (pc := 19) X Q nt tw_X8_57_59 dX8_insert_19 dX8_insert_22 dX8_insert_23 dX8_insert_25 dX8_insert_28 (by decide) (by decide) (by omega) ⟨Or.inr ⟨e, he, rfl, Or.inl ⟨rfl, fun y => hp y.1⟩⟩, rfl⟩
theorem x_type {E : EV} {h : AH} {q : Nat} {G : GQ} {s : SQ} (z : RC h q G s) (w : WS' s) {x d : Int32} : Ct E yX8_type cX8_type 4 (some .int) 12 1332 [.ref q, .int x, .int d] h (fun v h1 => (∃ e c : Nat, e ≤ 1 ∧ x = nI e ∧ d = nI c ∧ 32 ≤ c ∧ c ≤ 126 ∧ (eX (zE s e)).length < 60 ∧ zM s < 200 ∧ v = some (.int (nI (eC (zE (sIns s e (eC (zE s e)) c) e)))) ∧ ∃ la, RC h1 q (la, G.2) (sIns s e (eC (zE s e)) c)) ∧ FC h h1) (fun N h1 => ((N = "java/lang/IndexOutOfBoundsException" ∧ ¬ (x = 0 ∨ x = 1)) ∨ (∃ e : Nat, e ≤ 1 ∧ x = nI e ∧ ((N = "java/lang/IllegalArgumentException" ∧ ¬ (¬ d < 32 ∧ d ≤ 126)) ∨ (N = "java/lang/IllegalStateException" ∧ (¬ d < 32 ∧ d ≤ 126) ∧ ¬ ((eX (zE s e)).length < 60 ∧ zM s < 200))))) ∧ h1 = h) := by
  refine Ct_of RX8 (by decide +kernel) rfl (Nat.le_of_ble_eq_true rfl) (fun Γ X nt Q hin => ?_)
  refine V_aload_n (pc := 0) X 0 dX8_type_0 rfl ?_
  refine V_iload_n (pc := 1) X 1 dX8_type_1 rfl ?_
  refine V_callV (pc := 2) X clk8 (by decide) z.k _ (c_endN z) cw_X8_46 (Q.room (by decide) (by decide)) rfl (Nat.le_of_ble_eq_true rfl) rfl (by omega) dX8_type_2 (fun N h9 y => VX_out X Q nt ⟨Or.inl ⟨y.1, y.2.1⟩, y.2.2⟩) ?_
  rintro v2 h2 ⟨⟨e, he, rfl, rfl⟩, e2⟩
  rw [e2]
  simp only [Option.toList_some, List.cons_append, List.nil_append]
  obtain ⟨c0, hx, hc0⟩ := z.tx he
  have hl : (eX (zE s e)).length ≤ 200 := (w.1 e he).1.1.1
  have hcu : eC (zE s e) < 2 ^ 28 := (w.1 e he).1.2.2.2.2.1
  refine V_astore_n (pc := 5) X [(3, .ref _), (0, .ref _), (1, .int _), (2, .int _)] dX8_type_5 rfl (by decide) rfl ?_
  refine V_iload_n (pc := 6) X 3 dX8_type_6 rfl ?_
  refine V_callS (pc := 7) X _ c_reqW cw_X8_64 (Q.room (by decide) (by decide)) rfl (Nat.le_of_ble_eq_true rfl) rfl (by omega) dX8_type_7 (fun N h9 y => VX_out X Q nt ⟨Or.inr ⟨e, he, rfl, Or.inl ⟨y.1, y.2.1⟩⟩, y.2.2⟩) ?_
  rintro v30 h30 ⟨rfl, e30, d1, d2⟩
  rw [e30]
  simp only [Option.toList_none, List.nil_append]
  have d0 : ¬ d < 0 := fun y => d1 (Int32.lt_trans y (by decide))
  obtain ⟨c, hc, rfl⟩ := nI_of d0
  have hc1 : c ≤ 126 := (nI_leI (b := 126) (by omega) (by decide)).mp d2
  have hc2 : 32 ≤ c := by
    rcases Nat.lt_or_ge c 32 with y | y
    · exact absurd (nI_lt (b := 32) y (by decide)) d1
    · exact y
  refine V_aload_n (pc := 10) X 1 dX8_type_10 rfl ?_
  refine V_aload_n (pc := 11) X 0 dX8_type_11 rfl ?_
  refine V_callV (pc := 12) X clk8 (by decide) z.k _ (c_reqR z w he) cw_X8_68 (Q.room (by decide) (by decide)) rfl (Nat.le_of_ble_eq_true rfl) rfl (by omega) dX8_type_12 (fun N h9 y => VX_out X Q nt ⟨Or.inr ⟨e, he, rfl, Or.inr ⟨y.1, ⟨d1, d2⟩, y.2.1⟩⟩, y.2.2⟩) ?_
  rintro v36 h36 ⟨rfl, e36, r1, r2⟩
  rw [e36]
  simp only [Option.toList_none, List.nil_append]
  refine V_aload_n (pc := 15) X 1 dX8_type_15 rfl ?_
  refine V_aload_n (pc := 16) X 0 dX8_type_16 rfl ?_
  refine V_aload_n (pc := 17) X 0 dX8_type_17 rfl ?_
  refine V_get (pc := 18) X fl_X8_90 dX8_type_18 (z.es he).1 (show _ = Value.int (nI (eC (zE s e))) from (z.e he).2.2.2.2.1) ?_
  refine V_iload_n (pc := 21) X 3 dX8_type_21 rfl ?_
  refine V_callV (pc := 22) X clk8 (by decide) z.k _ (c_writeKept z w he (p := eC (zE s e)) (c := c) hcu (by omega)) cw_X8_72 (Q.room (by decide) (by decide)) rfl (Nat.le_of_ble_eq_true rfl) rfl (by omega) dX8_type_22 (fun _ _ z => z.elim) ?_
  rintro v44 h44 ⟨rfl, ⟨la, z5⟩, fc⟩
  simp only [Option.toList_none, List.nil_append]
  refine V_aload_n (pc := 25) X 0 dX8_type_25 rfl ?_
  refine V_get (pc := 26) X fl_X8_90 dX8_type_26 (z5.es he).1 (show _ = Value.int (nI (eC (zE (sIns s e (eC (zE s e)) c) e))) from (z5.e he).2.2.2.2.1) ?_
  refine V_iret (pc := 29) X Q rfl rfl dX8_type_29 ?_
  exact ⟨⟨e, c, he, rfl, rfl, hc2, hc1, r1, r2, rfl, la, z5⟩, fc⟩
theorem x_delete {E : EV} {h : AH} {q : Nat} {G : GQ} {s : SQ} (z : RC h q G s) (w : WS' s) {x p : Int32} : Ct E yX8_delete cX8_delete 4 (some .char) 12 1332 [.ref q, .int x, .int p] h (fun v h1 => (∃ e i y : Nat, e ≤ 1 ∧ x = nI e ∧ p = nI i ∧ (eX (zE s e))[i]? = some y ∧ zM s < 200 ∧ v = some (.int (nI (zT s y).1)) ∧ RC h1 q G (sDel s e i y)) ∧ FC h h1) (fun N h1 => ((N = "java/lang/IndexOutOfBoundsException" ∧ ¬ (x = 0 ∨ x = 1)) ∨ (∃ e : Nat, e ≤ 1 ∧ x = nI e ∧ ((N = "java/lang/IllegalArgumentException" ∧ ¬ (¬ p < 0 ∧ p < nI (eX (zE s e)).length)) ∨ (N = "java/lang/IllegalStateException" ∧ (¬ p < 0 ∧ p < nI (eX (zE s e)).length) ∧ ¬ zM s < 200)))) ∧ h1 = h) := by
  refine Ct_of RX8 (by decide +kernel) rfl (Nat.le_of_ble_eq_true rfl) (fun Γ X nt Q hin => ?_)
  refine V_aload_n (pc := 0) X 0 dX8_delete_0 rfl ?_
  refine V_iload_n (pc := 1) X 1 dX8_delete_1 rfl ?_
  refine V_callV (pc := 2) X clk8 (by decide) z.k _ (c_endN z) cw_X8_46 (Q.room (by decide) (by decide)) rfl (Nat.le_of_ble_eq_true rfl) rfl (by omega) dX8_delete_2 (fun N h9 y => VX_out X Q nt ⟨Or.inl ⟨y.1, y.2.1⟩, y.2.2⟩) ?_
  rintro v2 h2 ⟨⟨e, he, rfl, rfl⟩, e2⟩
  rw [e2]
  simp only [Option.toList_some, List.cons_append, List.nil_append]
  obtain ⟨c0, hx, hc0⟩ := z.tx he
  have hl : (eX (zE s e)).length ≤ 200 := (w.1 e he).1.1.1
  refine V_astore_n (pc := 5) X [(3, .ref _), (0, .ref _), (1, .int _), (2, .int _)] dX8_delete_5 rfl (by decide) rfl ?_
  refine V_aload_n (pc := 6) X 0 dX8_delete_6 rfl ?_
  refine V_get (pc := 7) X fl_X8_50 dX8_delete_7 (z.es he).1 ((z.es he).f 1) ?_
  refine V_iload_n (pc := 10) X 3 dX8_delete_10 rfl ?_
  refine V_callV (pc := 11) X clk7 (by decide) hx.1 _ (c_hasC hx) cw_X8_80 (Q.room (by decide) (by decide)) rfl (Nat.le_of_ble_eq_true rfl) rfl (by omega) dX8_delete_11 (fun _ _ z => z.elim) ?_
  rintro v13 h13 ⟨rfl, e13⟩
  rw [e13]
  simp only [Option.toList_some, List.cons_append, List.nil_append]
  refine V_if_ne (pc := 14) X 27 dX8_delete_14 (by decide) (fun c14 => ?_) (fun c14 => ?_)
  · have hp : (¬ p < 0 ∧ p < nI (eX (zE s e)).length) := by
      by_cases y : ¬ p < 0 ∧ p < nI (eX (zE s e)).length
      · exact y
      · rw [if_neg y] at c14; exact absurd rfl c14
    obtain ⟨i, hi, rfl⟩ := nI_of hp.1
    have hil : i < (eX (zE s e)).length := (nI_ltI (by omega) (by omega)).mp hp.2
    obtain ⟨y, hy⟩ : ∃ y, (eX (zE s e))[i]? = some y := ⟨_, List.getElem?_eq_getElem hil⟩
    have lt := z.lt w he y (List.mem_of_getElem? hy)
    refine V_aload_n (pc := 27) X 1 dX8_delete_27 rfl ?_
    refine V_callV (pc := 28) X clk8 (by decide) z.k _ (c_reqO z w.2.2.2.1) cw_X8_83 (Q.room (by decide) (by decide)) rfl (Nat.le_of_ble_eq_true rfl) rfl (by omega) dX8_delete_28 (fun N h9 y => VX_out X Q nt ⟨Or.inr ⟨e, he, rfl, Or.inr ⟨y.1, hp, y.2.1⟩⟩, y.2.2⟩) ?_
    rintro v28 h28 ⟨rfl, e28, r2⟩
    rw [e28]
    simp only [Option.toList_none, List.nil_append]
    refine V_aload_n (pc := 31) X 1 dX8_delete_31 rfl ?_
    refine V_aload_n (pc := 32) X 0 dX8_delete_32 rfl ?_
    refine V_iload_n (pc := 33) X 3 dX8_delete_33 rfl ?_
    refine V_callV (pc := 34) X clk8 (by decide) z.k _ (c_removeKept z w he hy) cw_X8_86 (Q.room (by decide) (by decide)) rfl (Nat.le_of_ble_eq_true rfl) rfl (by omega) dX8_delete_34 (fun _ _ z => z.elim) ?_
    rintro v34 h34 ⟨rfl, z5, fc⟩
    simp only [Option.toList_some, List.cons_append, List.nil_append]
    refine V_iret (pc := 37) X Q rfl (chr_ok lt.2.2.2.1) dX8_delete_37 ?_
    exact ⟨⟨e, i, y, he, rfl, rfl, hy, r2, rfl, z5⟩, fc⟩
  · have hp : ¬ (¬ p < 0 ∧ p < nI (eX (zE s e)).length) := fun y => by rw [if_pos y] at c14; exact absurd c14 (by decide)
    exact V_throw (pc := 17) X Q nt tw_X8_57_59 dX8_delete_17 dX8_delete_20 dX8_delete_21 dX8_delete_23 dX8_delete_26 (by decide) (by decide) (by omega) ⟨Or.inr ⟨e, he, rfl, Or.inl ⟨rfl, hp⟩⟩, rfl⟩
theorem x_erase {E : EV} {h : AH} {q : Nat} {G : GQ} {s : SQ} (z : RC h q G s) (w : WS' s) (hcu : ∀ e, e ≤ 1 → eC (zE s e) ≤ (eX (zE s e)).length) {x : Int32} : Ct E yX8_erase cX8_erase 4 (some .char) 12 1332 [.ref q, .int x] h (fun v h1 => (∃ e y : Nat, e ≤ 1 ∧ x = nI e ∧ 0 < eC (zE s e) ∧ (eX (zE s e))[eC (zE s e) - 1]? = some y ∧ zM s < 200 ∧ v = some (.int (nI (zT s y).1)) ∧ RC h1 q G (sDel s e (eC (zE s e) - 1) y)) ∧ FC h h1) (fun N h1 => ((N = "java/lang/IndexOutOfBoundsException" ∧ ¬ (x = 0 ∨ x = 1)) ∨ (∃ e : Nat, e ≤ 1 ∧ x = nI e ∧ ((N = "java/util/NoSuchElementException" ∧ eC (zE s e) = 0) ∨ (N = "java/lang/IllegalStateException" ∧ 0 < eC (zE s e) ∧ ¬ zM s < 200)))) ∧ h1 = h) := by
  refine Ct_of RX8 (by decide +kernel) rfl (Nat.le_of_ble_eq_true rfl) (fun Γ X nt Q hin => ?_)
  refine V_aload_n (pc := 0) X 0 dX8_erase_0 rfl ?_
  refine V_iload_n (pc := 1) X 1 dX8_erase_1 rfl ?_
  refine V_callV (pc := 2) X clk8 (by decide) z.k _ (c_endN z) cw_X8_46 (Q.room (by decide) (by decide)) rfl (Nat.le_of_ble_eq_true rfl) rfl (by omega) dX8_erase_2 (fun N h9 y => VX_out X Q nt ⟨Or.inl ⟨y.1, y.2.1⟩, y.2.2⟩) ?_
  rintro v2 h2 ⟨⟨e, he, rfl, rfl⟩, e2⟩
  rw [e2]
  simp only [Option.toList_some, List.cons_append, List.nil_append]
  obtain ⟨c0, hx, hc0⟩ := z.tx he
  have hl : (eX (zE s e)).length ≤ 200 := (w.1 e he).1.1.1
  have hcl := hcu e he
  obtain ⟨cu, ecu⟩ : ∃ cu, cu = eC (zE s e) := ⟨_, rfl⟩
  rw [← ecu] at hcl
  refine V_astore_n (pc := 5) X [(2, .ref _), (0, .ref _), (1, .int _)] dX8_erase_5 rfl (by decide) rfl ?_
  refine V_aload_n (pc := 6) X 0 dX8_erase_6 rfl ?_
  refine V_get (pc := 7) X fl_X8_90 dX8_erase_7 (z.es he).1 (show _ = Value.int (nI cu) from by rw [ecu]; exact (z.e he).2.2.2.2.1) ?_
  refine V_iconst (pc := 10) (v := 1) X dX8_erase_10 (by decide) ?_
  refine V_isub (pc := 11) X dX8_erase_11 ?_
  refine V_istore_n (pc := 12) X [(3, .int _), (2, .ref _), (0, .ref _), (1, .int _)] dX8_erase_12 rfl (by decide) rfl ?_
  refine V_aload_n (pc := 13) X 1 dX8_erase_13 rfl ?_
  refine V_get (pc := 14) X fl_X8_50 dX8_erase_14 (z.es he).1 ((z.es he).f 1) ?_
  refine V_iload_n (pc := 17) X 0 dX8_erase_17 rfl ?_
  refine V_callV (pc := 18) X clk7 (by decide) hx.1 _ (c_hasC hx) cw_X8_80 (Q.room (by decide) (by decide)) rfl (Nat.le_of_ble_eq_true rfl) rfl (by omega) dX8_erase_18 (fun _ _ z => z.elim) ?_
  rintro v13 h13 ⟨rfl, e13⟩
  rw [e13]
  simp only [Option.toList_some, List.cons_append, List.nil_append]
  refine V_if_ne (pc := 21) X 34 dX8_erase_21 (by decide) (fun c21 => ?_) (fun c21 => ?_)
  · have h0 : 0 < cu := by
      rcases Nat.eq_zero_or_pos cu with y | y
      · rw [y, if_neg (fun u => u.1 (by decide))] at c21; exact absurd rfl c21
      · exact y
    obtain ⟨y, hy⟩ : ∃ y, (eX (zE s e))[cu - 1]? = some y := ⟨_, List.getElem?_eq_getElem (by omega)⟩
    have lt := z.lt w he y (List.mem_of_getElem? hy)
    rw [nI_m1 h0]
    refine V_aload_n (pc := 34) X 2 dX8_erase_34 rfl ?_
    refine V_callV (pc := 35) X clk8 (by decide) z.k _ (c_reqO z w.2.2.2.1) cw_X8_83 (Q.room (by decide) (by decide)) rfl (Nat.le_of_ble_eq_true rfl) rfl (by omega) dX8_erase_35 (fun N h9 y => VX_out X Q nt ⟨Or.inr ⟨e, he, rfl, Or.inr ⟨y.1, by omega, y.2.1⟩⟩, y.2.2⟩) ?_
    rintro v28 h28 ⟨rfl, e28, r2⟩
    rw [e28]
    simp only [Option.toList_none, List.nil_append]
    refine V_aload_n (pc := 38) X 2 dX8_erase_38 rfl ?_
    refine V_aload_n (pc := 39) X 1 dX8_erase_39 rfl ?_
    refine V_iload_n (pc := 40) X 0 dX8_erase_40 rfl ?_
    refine V_callV (pc := 41) X clk8 (by decide) z.k _ (c_removeKept z w he hy) cw_X8_86 (Q.room (by decide) (by decide)) rfl (Nat.le_of_ble_eq_true rfl) rfl (by omega) dX8_erase_41 (fun _ _ z => z.elim) ?_
    rintro v34 h34 ⟨rfl, z5, fc⟩
    simp only [Option.toList_some, List.cons_append, List.nil_append]
    refine V_iret (pc := 44) X Q rfl (chr_ok lt.2.2.2.1) dX8_erase_44 ?_
    exact ⟨⟨e, y, he, rfl, by omega, by rw [← ecu]; exact hy, r2, rfl, by rw [← ecu]; exact z5⟩, fc⟩
  · have h0 : cu = 0 := by
      rcases Nat.eq_zero_or_pos cu with y | y
      · exact y
      · rw [nI_m1 y, if_pos ⟨nI_pos (by omega), nI_lt (by omega) (by omega)⟩] at c21; exact absurd c21 (by decide)
    exact V_throwN (pc := 24) X Q nt tw_X8_93_95 dX8_erase_24 dX8_erase_27 dX8_erase_28 dX8_erase_30 dX8_erase_33 (by decide) (by decide) (by omega) ⟨Or.inr ⟨e, he, rfl, Or.inl ⟨rfl, ecu.symm.trans h0⟩⟩, rfl⟩
theorem x_moveCursor {E : EV} {h : AH} {q : Nat} {G : GQ} {s : SQ} (z : RC h q G s) (w : WS' s) {x p : Int32} : Ct E yX8_moveCursor cX8_moveCursor 5 (some .int) 7 6 [.ref q, .int x, .int p] h (fun v h1 => (∃ e i : Nat, e ≤ 1 ∧ x = nI e ∧ p = nI i ∧ i ≤ (eX (zE s e)).length ∧ v = some (.int (nI (eC (zE s e)))) ∧ RC h1 q G (sCur s e i)) ∧ FC h h1) (fun N h1 => ((N = "java/lang/IndexOutOfBoundsException" ∧ ¬ (x = 0 ∨ x = 1)) ∨ (∃ e : Nat, e ≤ 1 ∧ x = nI e ∧ N = "java/lang/IllegalArgumentException" ∧ ¬ (¬ p < 0 ∧ p ≤ nI (eX (zE s e)).length))) ∧ h1 = h) := by
  refine Ct_of RX8 (by decide +kernel) rfl (Nat.le_of_ble_eq_true rfl) (fun Γ X nt Q hin => ?_)
  refine V_aload_n (pc := 0) X 0 dX8_moveCursor_0 rfl ?_
  refine V_iload_n (pc := 1) X 1 dX8_moveCursor_1 rfl ?_
  refine V_callV (pc := 2) X clk8 (by decide) z.k _ (c_endN z) cw_X8_46 (Q.room (by decide) (by decide)) rfl (Nat.le_of_ble_eq_true rfl) rfl (by omega) dX8_moveCursor_2 (fun N h9 y => VX_out X Q nt ⟨Or.inl ⟨y.1, y.2.1⟩, y.2.2⟩) ?_
  rintro v2 h2 ⟨⟨e, he, rfl, rfl⟩, e2⟩
  rw [e2]
  simp only [Option.toList_some, List.cons_append, List.nil_append]
  obtain ⟨c0, hx, hc0⟩ := z.tx he
  have hl : (eX (zE s e)).length ≤ 200 := (w.1 e he).1.1.1
  refine V_astore_n (pc := 5) X [(3, .ref _), (0, .ref _), (1, .int _), (2, .int _)] dX8_moveCursor_5 rfl (by decide) rfl ?_
  refine V_aload_n (pc := 6) X 0 dX8_moveCursor_6 rfl ?_
  refine V_get (pc := 7) X fl_X8_50 dX8_moveCursor_7 (z.es he).1 ((z.es he).f 1) ?_
  refine V_iload_n (pc := 10) X 3 dX8_moveCursor_10 rfl ?_
  refine V_callV (pc := 11) X clk7 (by decide) hx.1 _ (c_hasP hx) cw_X8_53 (Q.room (by decide) (by decide)) rfl (Nat.le_of_ble_eq_true rfl) rfl (by omega) dX8_moveCursor_11 (fun _ _ z => z.elim) ?_
  rintro v13 h13 ⟨rfl, e13⟩
  rw [e13]
  simp only [Option.toList_some, List.cons_append, List.nil_append]
  refine V_if_ne (pc := 14) X 27 dX8_moveCursor_14 (by decide) (fun c14 => ?_) (fun c14 => ?_)
  · have hp : (¬ p < 0 ∧ p ≤ nI (eX (zE s e)).length) := by
      by_cases y : ¬ p < 0 ∧ p ≤ nI (eX (zE s e)).length
      · exact y
      · rw [if_neg y] at c14; exact absurd rfl c14
    obtain ⟨i, hi, rfl⟩ := nI_of hp.1
    have hil : i ≤ (eX (zE s e)).length := (nI_leI (by omega) (by omega)).mp hp.2
    refine V_aload_n (pc := 27) X 0 dX8_moveCursor_27 rfl ?_
    refine V_get (pc := 28) X fl_X8_90 dX8_moveCursor_28 (z.es he).1 (show _ = Value.int (nI (eC (zE s e))) from (z.e he).2.2.2.2.1) ?_
    refine V_istore (pc := 31) X [(4, .int _), (3, .ref _), (0, .ref _), (1, .int _), (2, .int _)] dX8_moveCursor_31 (by decide) rfl ?_
    refine V_aload_n (pc := 33) X 1 dX8_moveCursor_33 rfl ?_
    refine V_iload_n (pc := 34) X 4 dX8_moveCursor_34 rfl ?_
    refine V_put (pc := 35) X fl_X8_90 dX8_moveCursor_35 (z.es he).1 ⟨rfl, rfl⟩ ?_
    refine V_iload (pc := 38) X 0 dX8_moveCursor_38 rfl ?_
    refine V_iret (pc := 40) X Q rfl rfl dX8_moveCursor_40 ?_
    have Fc : Fr (fun a => a = G.2.1 e 0) h (sF h 207 (G.2.1 e 0) (.int (nI i))) := Fr_sF (f := 207) rfl
    obtain ⟨y1, y2⟩ := z.quiet he (x' := ((zE s e).1, (zE s e).2.1, (zE s e).2.2.1, (zE s e).2.2.2.1, i, (zE s e).2.2.2.2.2)) (ER.cu (xs := (zE s e).1) (S := (zE s e).2.1) (W := (zE s e).2.2.1) (K := (zE s e).2.2.2.1) (cu := (zE s e).2.2.2.2.1) (mk := (zE s e).2.2.2.2.2.1) (rv := (zE s e).2.2.2.2.2.2) (z.e he) i) (Fc.mono (fun a _ y => by rw [y]; exact (z.es he).o 0)) ⟨rfl, rfl, rfl, rfl⟩ rfl
    exact ⟨⟨e, i, he, rfl, rfl, hil, rfl, y1⟩, y2⟩
  · have hp : ¬ (¬ p < 0 ∧ p ≤ nI (eX (zE s e)).length) := fun y => by rw [if_pos y] at c14; exact absurd c14 (by decide)
    exact V_throw (pc := 17) X Q nt tw_X8_57_59 dX8_moveCursor_17 dX8_moveCursor_20 dX8_moveCursor_21 dX8_moveCursor_23 dX8_moveCursor_26 (by decide) (by decide) (by omega) ⟨Or.inr ⟨e, he, rfl, rfl, hp⟩, rfl⟩
theorem x_undo {E : EV} {h : AH} {q : Nat} {G : GQ} {s : SQ} (z : RC h q G s) (w : WS' s) {x : Int32} : Ct E yX8_undo cX8_undo 5 (some .boolean) 12 1232 [.ref q, .int x] h (fun v h1 => (∃ (e n : Nat) (k : KO), e ≤ 1 ∧ x = nI e ∧ (eK (zE s e)).length = n + 1 ∧ (eK (zE s e))[n]? = some k ∧ ((k.1 = 1 ∧ fnd (eX (zE s e)) k.2.1 0 = none ∧ v = some (.int 0) ∧ RC h1 q G (drpK s e)) ∨ (k.1 = 1 ∧ ∃ i, fnd (eX (zE s e)) k.2.1 0 = some i ∧ zM s < 200 ∧ v = some (.int 1) ∧ RC h1 q G (sUnI s e i k.2.1)) ∨ (k.1 = 0 ∧ v = some (.int 1) ∧ (eX (zE s e)).length < 60 ∧ zM s < 200 ∧ ∃ la, RC h1 q (la, G.2) (sUnD s e k.2.2 k.2.1)))) ∧ FC h h1) (fun N h1 => ((N = "java/lang/IndexOutOfBoundsException" ∧ ¬ (x = 0 ∨ x = 1)) ∨ (∃ e : Nat, e ≤ 1 ∧ x = nI e ∧ ((N = "java/util/NoSuchElementException" ∧ eK (zE s e) = []) ∨ (N = "java/lang/IllegalStateException" ∧ ∃ (n : Nat) (k : KO), (eK (zE s e)).length = n + 1 ∧ (eK (zE s e))[n]? = some k ∧ ((k.1 = 1 ∧ (∃ i, fnd (eX (zE s e)) k.2.1 0 = some i) ∧ ¬ zM s < 200) ∨ (k.1 = 0 ∧ ¬ ((eX (zE s e)).length < 60 ∧ zM s < 200))))))) ∧ h1 = h) := by
  refine Ct_of RX8 (by decide +kernel) rfl (Nat.le_of_ble_eq_true rfl) (fun Γ X nt Q hin => ?_)
  refine V_aload_n (pc := 0) X 0 dX8_undo_0 rfl ?_
  refine V_iload_n (pc := 1) X 1 dX8_undo_1 rfl ?_
  refine V_callV (pc := 2) X clk8 (by decide) z.k _ (c_endN z) cw_X8_46 (Q.room (by decide) (by decide)) rfl (Nat.le_of_ble_eq_true rfl) rfl (by omega) dX8_undo_2 (fun N h9 y => VX_out X Q nt ⟨Or.inl ⟨y.1, y.2.1⟩, y.2.2⟩) ?_
  rintro v2 h2 ⟨⟨e, he, rfl, rfl⟩, e2⟩
  rw [e2]
  simp only [Option.toList_some, List.cons_append, List.nil_append]
  obtain ⟨c0, hx, hc0⟩ := z.tx he
  have hl : (eX (zE s e)).length ≤ 200 := (w.1 e he).1.1.1
  obtain ⟨R, q1, q2, q3, q4, q5⟩ := (z.e he).2.2.2.1
  have hKl : (eK (zE s e)).length ≤ 200 := (w.1 e he).1.2.2.2.1.1
  have hRK : R.length = (eK (zE s e)).length := q2.1
  refine V_astore_n (pc := 5) X [(2, .ref _), (0, .ref _), (1, .int _)] dX8_undo_5 rfl (by decide) rfl ?_
  refine V_aload_n (pc := 6) X 0 dX8_undo_6 rfl ?_
  refine V_get (pc := 7) X fl_X8_98 dX8_undo_7 (z.es he).1 ((z.es he).f 6) ?_
  refine V_callL (pc := 10) X (Or.inl ((z.es he).l 6)) _ (c_size ((z.es he).l 6)) cw_X8_102 (Q.room (by decide) (by decide)) rfl (Nat.le_of_ble_eq_true rfl) rfl (by omega) dX8_undo_10 (fun _ _ z => z.elim) ?_
  rintro v10 h10 ⟨rfl, e10⟩
  rw [e10, q1, hRK]
  simp only [Option.toList_some, List.cons_append, List.nil_append]
  refine V_iconst (pc := 13) (v := 1) X dX8_undo_13 (by decide) ?_
  refine V_isub (pc := 14) X dX8_undo_14 ?_
  refine V_istore_n (pc := 15) X [(3, .int _), (2, .ref _), (0, .ref _), (1, .int _)] dX8_undo_15 rfl (by decide) rfl ?_
  refine V_iload_n (pc := 16) X 0 dX8_undo_16 rfl ?_
  refine V_if_ge (pc := 17) X 30 dX8_undo_17 (by decide) (fun c17 => ?_) (fun c17 => ?_)
  · have h0 : 0 < (eK (zE s e)).length := by
      rcases Nat.eq_zero_or_pos (eK (zE s e)).length with y | y
      · rw [y] at c17; exact absurd c17 (by decide)
      · exact y
    obtain ⟨n, hn⟩ : ∃ n, (eK (zE s e)).length = n + 1 := ⟨(eK (zE s e)).length - 1, by omega⟩
    rw [hn, nI_pred]
    obtain ⟨r, k, hr1, hk1, kp⟩ := q2.at (i := n) (by omega)
    have hk1 : (eK (zE s e))[n]? = some k := hk1
    have wk := (w.1 e he).1.2.2.2.1.2 k (List.mem_of_getElem? hk1)
    unfold wK at wk
    refine V_aload_n (pc := 30) X 1 dX8_undo_30 rfl ?_
    refine V_get (pc := 31) X fl_X8_98 dX8_undo_31 (z.es he).1 ((z.es he).f 6) ?_
    refine V_iload_n (pc := 34) X 0 dX8_undo_34 rfl ?_
    refine V_callL (pc := 35) X (Or.inl ((z.es he).l 6)) _ (c_get (i := n) (x := r) ((z.es he).l 6) (by rw [q1]; exact hr1) (by rw [q1]; omega)) cw_X8_107 (Q.room (by decide) (by decide)) rfl (Nat.le_of_ble_eq_true rfl) rfl (by omega) dX8_undo_35 (fun _ _ z => z.elim) ?_
    rintro v35 h35 ⟨rfl, e35⟩
    rw [e35]
    simp only [Option.toList_some, List.cons_append, List.nil_append]
    refine V_cast (pc := 38) X clk3 (by decide) ck_X8_111 kp.1 dX8_undo_38 ?_
    refine V_astore (pc := 41) X [(4, .ref _), (3, .int _), (2, .ref _), (0, .ref _), (1, .int _)] dX8_undo_41 (by decide) rfl ?_
    refine V_aload (pc := 43) X 0 dX8_undo_43 rfl ?_
    refine V_get (pc := 45) X fl_X8_113 dX8_undo_45 kp.1 kp.2.1 ?_
    refine V_if_eq (pc := 48) X 65 dX8_undo_48 (by decide) (fun c48 => ?_) (fun c48 => ?_)
    · have k0 : k.1 = 0 := (nI_eq (b := 0) (by omega) (by decide)).mp c48
      have kp0 : KP G.1 h r (0, k.2.1, k.2.2) := by rw [← k0]; exact kp
      refine V_aload_n (pc := 65) X 3 dX8_undo_65 rfl ?_
      refine V_aload_n (pc := 66) X 2 dX8_undo_66 rfl ?_
      refine V_iload_n (pc := 67) X 1 dX8_undo_67 rfl ?_
      refine V_aload (pc := 68) X 0 dX8_undo_68 rfl ?_
      refine V_callV (pc := 70) X clk8 (by decide) z.k _ (c_putBack z w he hn kp0 wk.2.2 wk.2.1) cw_X8_125 (Q.room (by decide) (by decide)) rfl (Nat.le_of_ble_eq_true rfl) rfl (by omega) dX8_undo_70 (fun N h9 y => VX_out X Q nt ⟨Or.inr ⟨e, he, rfl, Or.inr ⟨y.1, n, k, hn, hk1, Or.inr ⟨k0, y.2.1⟩⟩⟩, y.2.2⟩) ?_
      rintro v70 h70 ⟨⟨rfl, y1, y2, y3⟩, fc⟩
      have hb : narrow .boolean (.int 1) = .int 1 := rfl
      simp only [Option.toList_some, List.cons_append, List.nil_append]
      refine V_iret (pc := 73) X Q rfl hb dX8_undo_73 ?_
      first
      | exact ⟨⟨e, n, k, he, rfl, hn, hk1, Or.inr (Or.inr ⟨k0, rfl, y1, y2, y3⟩)⟩, fc⟩
      | exact ⟨⟨e, n, k, he, rfl, hn, hk1, y1.elim (fun y => Or.inl ⟨k1, y⟩) (fun y => Or.inr (Or.inl ⟨k1, y⟩))⟩, fc⟩
    · have k1 : k.1 = 1 := by
        have : k.1 ≠ 0 := fun y => c48 (by rw [y]; rfl)
        omega
      refine V_aload_n (pc := 51) X 3 dX8_undo_51 rfl ?_
      refine V_aload_n (pc := 52) X 2 dX8_undo_52 rfl ?_
      refine V_iload_n (pc := 53) X 1 dX8_undo_53 rfl ?_
      refine V_aload (pc := 54) X 0 dX8_undo_54 rfl ?_
      refine V_get (pc := 56) X fl_X8_117 dX8_undo_56 kp.1 kp.2.2.1 ?_
      refine V_callV (pc := 59) X clk8 (by decide) z.k _ (c_takeBack z w he hn wk.2.2) cw_X8_121 (Q.room (by decide) (by decide)) rfl (Nat.le_of_ble_eq_true rfl) rfl (by omega) dX8_undo_59 (fun N h9 y => VX_out X Q nt ⟨Or.inr ⟨e, he, rfl, Or.inr ⟨y.1, n, k, hn, hk1, Or.inl ⟨k1, y.2.1, y.2.2.1⟩⟩⟩, y.2.2.2⟩) ?_
      rintro v59 h59 ⟨y1, fc⟩
      obtain ⟨bv, rfl, hb⟩ : ∃ bv : Int32, v59 = some (.int bv) ∧ narrow .boolean (.int bv) = .int bv := y1.elim (fun y => ⟨0, y.2.1, rfl⟩) (fun ⟨i, y⟩ => ⟨1, y.2.2.1, rfl⟩)
      simp only [Option.toList_some, List.cons_append, List.nil_append]
      refine V_goto (pc := 62) X 73 dX8_undo_62 (by decide) ?_
      refine V_iret (pc := 73) X Q rfl hb dX8_undo_73 ?_
      first
      | exact ⟨⟨e, n, k, he, rfl, hn, hk1, Or.inr (Or.inr ⟨k0, rfl, y1, y2, y3⟩)⟩, fc⟩
      | exact ⟨⟨e, n, k, he, rfl, hn, hk1, y1.elim (fun y => Or.inl ⟨k1, y⟩) (fun y => Or.inr (Or.inl ⟨k1, y⟩))⟩, fc⟩
  · have h0 : (eK (zE s e)).length = 0 := by
      rcases Nat.eq_zero_or_pos (eK (zE s e)).length with y | y
      · exact y
      · rw [nI_m1 y] at c17; exact absurd (nI_pos' (by omega)) c17
    exact V_throwN (pc := 20) X Q nt tw_X8_93_105 dX8_undo_20 dX8_undo_23 dX8_undo_24 dX8_undo_26 dX8_undo_29 (by decide) (by decide) (by omega) ⟨Or.inr ⟨e, he, rfl, Or.inl ⟨rfl, List.length_eq_zero_iff.mp h0⟩⟩, rfl⟩
