/-! WHAT THE CALLS DEMAND -/
theorem RC.e {h : AH} {q : Nat} {G : GQ} {s : SQ} (z : RC h q G s) {e : Nat} (he : e ≤ 1) : ER G.1 h e (G.2.1 e) (zE s e) := z.2.1 e he
theorem RC.es {h : AH} {q : Nat} {G : GQ} {s : SQ} (z : RC h q G s) {e : Nat} (he : e ≤ 1) : ES h e (G.2.1 e) := (z.e he).1
theorem RC.k {h : AH} {q : Nat} {G : GQ} {s : SQ} (z : RC h q G s) : qK h q = 9 := z.1.1
theorem eq01 {x : Int32} (h : x = 0 ∨ x = 1) : ∃ e : Nat, e ≤ 1 ∧ x = nI e := h.elim (fun z => ⟨0, by decide, z⟩) (fun z => ⟨1, by decide, z⟩)
theorem no01 {x : Int32} (h : ¬ (x = 0 ∨ x = 1)) : ∀ e : Nat, e ≤ 1 → x ≠ nI e := fun e he z => by
  rcases (show e = 0 ∨ e = 1 by omega) with rfl | rfl
  · exact h (Or.inl z)
  · exact h (Or.inr z)
theorem c_endN {E : EV} {h : AH} {q : Nat} {G : GQ} {s : SQ} (z : RC h q G s) {x : Int32} : Ct E yX8_endNumbered cX8_endNumbered 2 (some (.object "Couplet$End")) 6 3 [.ref q, .int x] h (fun v h1 => (∃ e : Nat, e ≤ 1 ∧ x = nI e ∧ v = some (.ref (G.2.1 e 0))) ∧ h1 = h) (fun N h1 => N = "java/lang/IndexOutOfBoundsException" ∧ ¬ (x = 0 ∨ x = 1) ∧ h1 = h) := by
  refine Ct_of RX8 (by decide +kernel) rfl (Nat.le_of_ble_eq_true rfl) (fun Γ X nt Q hin => ?_)
  refine V_iload_n (pc := 0) X 1 dX8_endNumbered_0 rfl ?_
  refine V_if_eq (pc := 1) X 20 dX8_endNumbered_1 (by decide) (fun c1 => ?_) (fun c1 => ?_)
  · refine V_iload_n (pc := 20) X 1 dX8_endNumbered_20 rfl ?_
    refine V_if_ne (pc := 21) X 31 dX8_endNumbered_21 (by decide) (fun d21 => ?_) (fun d21 => ?_)
    · exact absurd c1 d21
    · refine V_aload_n (pc := 24) X 0 dX8_endNumbered_24 rfl ?_
      refine V_get (pc := 25) X fl_X8_12 dX8_endNumbered_25 z.k z.1.2.1 ?_
      refine V_goto (pc := 28) X 35 dX8_endNumbered_28 (by decide) ?_
      refine V_aret (pc := 35) X Q rfl dX8_endNumbered_35 ?_
      exact ⟨⟨0, by decide, c1, rfl⟩, rfl⟩
  · refine V_iload_n (pc := 4) X 1 dX8_endNumbered_4 rfl ?_
    refine V_iconst (pc := 5) (v := 1) X dX8_endNumbered_5 (by decide) ?_
    refine V_icmp_eq (pc := 6) X 20 dX8_endNumbered_6 (by decide) (fun c6 => ?_) (fun c6 => ?_)
    · refine V_iload_n (pc := 20) X 1 dX8_endNumbered_20 rfl ?_
      refine V_if_ne (pc := 21) X 31 dX8_endNumbered_21 (by decide) (fun d21 => ?_) (fun d21 => ?_)
      · refine V_aload_n (pc := 31) X 0 dX8_endNumbered_31 rfl ?_
        refine V_get (pc := 32) X fl_X8_18 dX8_endNumbered_32 z.k z.1.2.2.1 ?_
        refine V_aret (pc := 35) X Q rfl dX8_endNumbered_35 ?_
        exact ⟨⟨1, by decide, c6, rfl⟩, rfl⟩
      · exact absurd d21 c1
    · exact V_throwW (pc := 9) X Q nt tw_X8_254_256 dX8_endNumbered_9 dX8_endNumbered_12 dX8_endNumbered_13 dX8_endNumbered_16 dX8_endNumbered_19 (by decide) (by decide) (by omega) ⟨rfl, fun y => y.elim c1 c6, rfl⟩
theorem c_reqW {E : EV} {h : AH} {x : Int32} : Ct E yX8_requireWritable cX8_requireWritable 1 none 6 3 [.int x] h (fun v h1 => v = none ∧ h1 = h ∧ ¬ x < 32 ∧ x ≤ 126) (fun N h1 => N = "java/lang/IllegalArgumentException" ∧ ¬ (¬ x < 32 ∧ x ≤ 126) ∧ h1 = h) := by
  refine Ct_of RX8 (by decide +kernel) rfl (Nat.le_of_ble_eq_true rfl) (fun Γ X nt Q hin => ?_)
  refine V_iload_n (pc := 0) X 0 dX8_requireWritable_0 rfl ?_
  refine V_bipush (pc := 1) (v := 32) X dX8_requireWritable_1 (by decide) ?_
  refine V_icmp_lt (pc := 3) X 12 dX8_requireWritable_3 (by decide) (fun c3 => ?_) (fun c3 => ?_)
  · exact V_throwW (pc := 12) X Q nt tw_X8_57_259 dX8_requireWritable_12 dX8_requireWritable_15 dX8_requireWritable_16 dX8_requireWritable_19 dX8_requireWritable_22 (by decide) (by decide) (by omega) ⟨rfl, fun y => y.1 c3, rfl⟩
  · refine V_iload_n (pc := 6) X 0 dX8_requireWritable_6 rfl ?_
    refine V_bipush (pc := 7) (v := 126) X dX8_requireWritable_7 (by decide) ?_
    refine V_icmp_le (pc := 9) X 23 dX8_requireWritable_9 (by decide) (fun c9 => ?_) (fun c9 => ?_)
    · refine V_vret (pc := 23) X Q rfl dX8_requireWritable_23 ?_
      exact ⟨rfl, rfl, c3, c9⟩
    · exact V_throwW (pc := 12) X Q nt tw_X8_57_259 dX8_requireWritable_12 dX8_requireWritable_15 dX8_requireWritable_16 dX8_requireWritable_19 dX8_requireWritable_22 (by decide) (by decide) (by omega) ⟨rfl, fun y => c9 y.2, rfl⟩
theorem c_reqO {E : EV} {h : AH} {q : Nat} {G : GQ} {s : SQ} (z : RC h q G s) (hM : zM s ≤ 200) : Ct E yX8_requireOperationLeft cX8_requireOperationLeft 1 none 6 3 [.ref q] h (fun v h1 => v = none ∧ h1 = h ∧ zM s < 200) (fun N h1 => N = "java/lang/IllegalStateException" ∧ ¬ zM s < 200 ∧ h1 = h) := by
  refine Ct_of RX8 (by decide +kernel) rfl (Nat.le_of_ble_eq_true rfl) (fun Γ X nt Q hin => ?_)
  refine V_aload_n (pc := 0) X 0 dX8_requireOperationLeft_0 rfl ?_
  refine V_get (pc := 1) X fl_X8_42 dX8_requireOperationLeft_1 z.k z.1.2.2.2.2.2.2.1 ?_
  refine V_sipush (pc := 4) (v := 200) X dX8_requireOperationLeft_4 (by decide) ?_
  refine V_icmp_lt (pc := 7) X 21 dX8_requireOperationLeft_7 (by decide) (fun c7 => ?_) (fun c7 => ?_)
  · have c7 : nI (zM s) < nI 200 := c7
    refine V_vret (pc := 21) X Q rfl dX8_requireOperationLeft_21 ?_
    exact ⟨rfl, rfl, (nI_ltI (by omega) (by decide)).mp c7⟩
  · have c7 : ¬ nI (zM s) < nI 200 := c7
    exact V_throwW (pc := 10) X Q nt tw_X8_261_263 dX8_requireOperationLeft_10 dX8_requireOperationLeft_13 dX8_requireOperationLeft_14 dX8_requireOperationLeft_17 dX8_requireOperationLeft_20 (by decide) (by decide) (by omega) ⟨rfl, fun y => c7 (nI_lt y (by decide)), rfl⟩
theorem c_reqR {E : EV} {h : AH} {q : Nat} {G : GQ} {s : SQ} (z : RC h q G s) (w : WS' s) {e : Nat} (he : e ≤ 1) : Ct E yX8_requireRoom cX8_requireRoom 2 none 7 3 [.ref q, .ref (G.2.1 e 0)] h (fun v h1 => v = none ∧ h1 = h ∧ (eX (zE s e)).length < 60 ∧ zM s < 200) (fun N h1 => N = "java/lang/IllegalStateException" ∧ ¬ ((eX (zE s e)).length < 60 ∧ zM s < 200) ∧ h1 = h) := by
  refine Ct_of RX8 (by decide +kernel) rfl (Nat.le_of_ble_eq_true rfl) (fun Γ X nt Q hin => ?_)
  obtain ⟨c, hx, hc⟩ := (z.e he).2.1
  have hl : (eX (zE s e)).length ≤ 200 := (w.1 e he).1.1.1
  refine V_aload_n (pc := 0) X 1 dX8_requireRoom_0 rfl ?_
  refine V_get (pc := 1) X fl_X8_50 dX8_requireRoom_1 (z.es he).1 ((z.es he).f 1) ?_
  refine V_callV (pc := 4) X clk7 (by decide) hx.1 _ (c_tsize hx) cw_X8_76 (Q.room (by decide) (by decide)) rfl (Nat.le_of_ble_eq_true rfl) rfl (by omega) dX8_requireRoom_4 (fun _ _ z => z.elim) ?_
  rintro v4 h4 ⟨rfl, e4⟩
  rw [e4]
  simp only [Option.toList_some, List.cons_append, List.nil_append]
  refine V_bipush (pc := 7) (v := 60) X dX8_requireRoom_7 (by decide) ?_
  refine V_icmp_lt (pc := 9) X 23 dX8_requireRoom_9 (by decide) (fun c9 => ?_) (fun c9 => ?_)
  · have c9 : nI (eX (zE s e)).length < nI 60 := c9
    have d9 : (eX (zE s e)).length < 60 := (nI_ltI (by omega) (by decide)).mp c9
    refine V_aload_n (pc := 23) X 0 dX8_requireRoom_23 rfl ?_
    refine V_callV (pc := 24) X clk8 (by decide) z.k _ (c_reqO z w.2.2.2.1) cw_X8_83 (Q.room (by decide) (by decide)) rfl (Nat.le_of_ble_eq_true rfl) rfl (by omega) dX8_requireRoom_24 (fun N h9 y => VX_out X Q nt ⟨y.1, fun u => y.2.1 u.2, y.2.2⟩) ?_
    rintro v24 h24 ⟨rfl, e24, f24⟩
    rw [e24]
    simp only [Option.toList_none, List.nil_append]
    refine V_vret (pc := 27) X Q rfl dX8_requireRoom_27 ?_
    exact ⟨rfl, rfl, d9, f24⟩
  · have c9 : ¬ nI (eX (zE s e)).length < nI 60 := c9
    exact V_throwW (pc := 12) X Q nt tw_X8_261_266 dX8_requireRoom_12 dX8_requireRoom_15 dX8_requireRoom_16 dX8_requireRoom_19 dX8_requireRoom_22 (by decide) (by decide) (by omega) ⟨rfl, fun y => c9 (nI_lt y.1 (by decide)), rfl⟩
theorem c_letterOf {E : EV} {la : Nat → Nat} {tb : Nat → Nat × Nat} {h : AH} {t tl c : Nat} {xs : List Nat} (hx : TX la h t tl xs c) (hT : ∀ x ∈ xs, LT la tb h x) (hl : xs.length ≤ 200) {p : Int32} : Ct E yX8_letterOf cX8_letterOf 2 (some (.object "Couplet$Letter")) 6 3 [.ref t, .int p] h (fun v h1 => (∃ i x : Nat, p = nI i ∧ xs[i]? = some x ∧ v = some (.ref (la x))) ∧ h1 = h) (fun N h1 => N = "java/lang/IllegalArgumentException" ∧ ¬ (¬ p < 0 ∧ p < nI xs.length) ∧ h1 = h) := by
  refine Ct_of RX8 (by decide +kernel) rfl (Nat.le_of_ble_eq_true rfl) (fun Γ X nt Q hin => ?_)
  refine V_aload_n (pc := 0) X 0 dX8_letterOf_0 rfl ?_
  refine V_iload_n (pc := 1) X 1 dX8_letterOf_1 rfl ?_
  refine V_callV (pc := 2) X clk7 (by decide) hx.1 _ (c_hasC hx) cw_X8_80 (Q.room (by decide) (by decide)) rfl (Nat.le_of_ble_eq_true rfl) rfl (by omega) dX8_letterOf_2 (fun _ _ z => z.elim) ?_
  rintro v2 h2 ⟨rfl, e2⟩
  rw [e2]
  simp only [Option.toList_some, List.cons_append, List.nil_append]
  refine V_if_ne (pc := 5) X 18 dX8_letterOf_5 (by decide) (fun c5 => ?_) (fun c5 => ?_)
  · have hc : ¬ p < 0 ∧ p < nI xs.length := by
      by_cases y : ¬ p < 0 ∧ p < nI xs.length
      · exact y
      · rw [if_neg y] at c5; exact absurd rfl c5
    obtain ⟨i, hi, rfl⟩ := nI_of hc.1
    have hil : i < xs.length := (nI_ltI (by omega) (by omega)).mp hc.2
    obtain ⟨x, hx1⟩ : ∃ x, xs[i]? = some x := ⟨_, List.getElem?_eq_getElem hil⟩
    refine V_aload_n (pc := 18) X 0 dX8_letterOf_18 rfl ?_
    refine V_get (pc := 19) X fl_X8_268 dX8_letterOf_19 hx.1 hx.2.1 ?_
    refine V_iload_n (pc := 22) X 1 dX8_letterOf_22 rfl ?_
    refine V_callL (pc := 23) X (Or.inl hx.2.2.1) _ (c_get (i := i) (x := la x) hx.2.2.1 (hx.get hx1) (by rw [hx.len]; omega)) cw_X8_107 (Q.room (by decide) (by decide)) rfl (Nat.le_of_ble_eq_true rfl) rfl (by omega) dX8_letterOf_23 (fun _ _ z => z.elim) ?_
    rintro v23 h23 ⟨rfl, e23⟩
    rw [e23]
    simp only [Option.toList_some, List.cons_append, List.nil_append]
    refine V_cast (pc := 26) X clk4 (by decide) ck_X8_181 (hT x (List.mem_of_getElem? hx1)).1 dX8_letterOf_26 ?_
    refine V_aret (pc := 29) X Q rfl dX8_letterOf_29 ?_
    exact ⟨⟨i, x, rfl, hx1, rfl⟩, rfl⟩
  · have hc : ¬ (¬ p < 0 ∧ p < nI xs.length) := fun y => by rw [if_pos y] at c5; exact absurd c5 (by decide)
    exact V_throw (pc := 8) X Q nt tw_X8_57_59 dX8_letterOf_8 dX8_letterOf_11 dX8_letterOf_12 dX8_letterOf_14 dX8_letterOf_17 (by decide) (by decide) (by omega) ⟨rfl, hc, rfl⟩
theorem c_messageOf {E : EV} {h : AH} {q : Nat} {G : GQ} {s : SQ} (z : RC h q G s) (w : WS' s) {p : Int32} : Ct E yX8_messageOf cX8_messageOf 2 (some (.object "Couplet$Message")) 6 3 [.ref q, .int p] h (fun v h1 => (∃ (i a : Nat) (x : MG), p = nI i ∧ (zH s)[i]? = some x ∧ MS G.1 h a x.1 x.2.1 x.2.2 ∧ v = some (.ref a)) ∧ h1 = h) (fun N h1 => N = "java/util/NoSuchElementException" ∧ ¬ (¬ p < 0 ∧ p < nI (zH s).length) ∧ h1 = h) := by
  refine Ct_of RX8 (by decide +kernel) rfl (Nat.le_of_ble_eq_true rfl) (fun Γ X nt Q hin => ?_)
  obtain ⟨Hs, Us, hL, hH, -⟩ := z.2.2.2.1
  have cE := z.2.2.1
  have hHl := hH.1
  have hl := w.2.2.1.1
  refine V_iload_n (pc := 0) X 1 dX8_messageOf_0 rfl ?_
  refine V_if_lt (pc := 1) X 18 dX8_messageOf_1 (by decide) (fun c1 => ?_) (fun c1 => ?_)
  · exact V_throwNW (pc := 18) X Q nt tw_X8_93_271 dX8_messageOf_18 dX8_messageOf_21 dX8_messageOf_22 dX8_messageOf_25 dX8_messageOf_28 (by decide) (by decide) (by omega) ⟨rfl, fun y => y.1 c1, rfl⟩
  · refine V_iload_n (pc := 4) X 1 dX8_messageOf_4 rfl ?_
    refine V_aload_n (pc := 5) X 0 dX8_messageOf_5 rfl ?_
    refine V_get (pc := 6) X fl_X8_24 dX8_messageOf_6 z.k z.1.2.2.2.1 ?_
    refine V_get (pc := 9) X fl_X8_208 dX8_messageOf_9 cE.1 cE.2.2.1 ?_
    refine V_callL (pc := 12) X (Or.inl cE.2.2.2.2.1) _ (c_size cE.2.2.2.2.1) cw_X8_102 (Q.room (by decide) (by decide)) rfl (Nat.le_of_ble_eq_true rfl) rfl (by omega) dX8_messageOf_12 (fun _ _ z => z.elim) ?_
    rintro v12 h12 ⟨rfl, e12⟩
    rw [e12, hL, hHl]
    simp only [Option.toList_some, List.cons_append, List.nil_append]
    refine V_icmp_lt (pc := 15) X 29 dX8_messageOf_15 (by decide) (fun c15 => ?_) (fun c15 => ?_)
    · obtain ⟨i, hi, rfl⟩ := nI_of c1
      have hil : i < (zH s).length := (nI_ltI (by omega) (by omega)).mp c15
      obtain ⟨a, x, ha, hx, hm⟩ := hH.at (i := i) (by omega)
      refine V_aload_n (pc := 29) X 0 dX8_messageOf_29 rfl ?_
      refine V_get (pc := 30) X fl_X8_24 dX8_messageOf_30 z.k z.1.2.2.2.1 ?_
      refine V_get (pc := 33) X fl_X8_208 dX8_messageOf_33 cE.1 cE.2.2.1 ?_
      refine V_iload_n (pc := 36) X 1 dX8_messageOf_36 rfl ?_
      refine V_callL (pc := 37) X (Or.inl cE.2.2.2.2.1) _ (c_get (i := i) (x := a) cE.2.2.2.2.1 (by rw [hL]; exact ha) (by rw [hL]; omega)) cw_X8_107 (Q.room (by decide) (by decide)) rfl (Nat.le_of_ble_eq_true rfl) rfl (by omega) dX8_messageOf_37 (fun _ _ z => z.elim) ?_
      rintro v37 h37 ⟨rfl, e37⟩
      rw [e37]
      simp only [Option.toList_some, List.cons_append, List.nil_append]
      refine V_cast (pc := 40) X clk5 (by decide) ck_X8_141 hm.k dX8_messageOf_40 ?_
      refine V_aret (pc := 43) X Q rfl dX8_messageOf_43 ?_
      exact ⟨⟨i, a, x, rfl, hx, hm, rfl⟩, rfl⟩
    · exact V_throwNW (pc := 18) X Q nt tw_X8_93_271 dX8_messageOf_18 dX8_messageOf_21 dX8_messageOf_22 dX8_messageOf_25 dX8_messageOf_28 (by decide) (by decide) (by omega) ⟨rfl, fun y => c15 y.2, rfl⟩
theorem c_operationOf {E : EV} {h : AH} {q : Nat} {G : GQ} {s : SQ} (z : RC h q G s) (w : WS' s) {p r : Int32} : Ct E yX8_operationOf cX8_operationOf 4 (some (.object "Couplet$Operation")) 7 6 [.ref q, .int p, .int r] h (fun v h1 => (∃ (i j a : Nat) (x : MG) (o : SO), p = nI i ∧ r = nI j ∧ (zH s)[i]? = some x ∧ x.2.2[j]? = some o ∧ OP G.1 h a o ∧ v = some (.ref a)) ∧ h1 = h) (fun N h1 => ((N = "java/util/NoSuchElementException" ∧ ¬ (¬ p < 0 ∧ p < nI (zH s).length)) ∨ (N = "java/lang/IndexOutOfBoundsException" ∧ ∃ (i : Nat) (x : MG), p = nI i ∧ (zH s)[i]? = some x ∧ ¬ (¬ r < 0 ∧ r < nI x.2.2.length))) ∧ h1 = h) := by
  refine Ct_of RX8 (by decide +kernel) rfl (Nat.le_of_ble_eq_true rfl) (fun Γ X nt Q hin => ?_)
  refine V_aload_n (pc := 0) X 0 dX8_operationOf_0 rfl ?_
  refine V_iload_n (pc := 1) X 1 dX8_operationOf_1 rfl ?_
  refine V_callV (pc := 2) X clk8 (by decide) z.k _ (c_messageOf z w) cw_X8_211 (Q.room (by decide) (by decide)) rfl (Nat.le_of_ble_eq_true rfl) rfl (by omega) dX8_operationOf_2 (fun N h9 y => VX_out X Q nt ⟨Or.inl ⟨y.1, y.2.1⟩, y.2.2⟩) ?_
  rintro v2 h2 ⟨⟨i, m, x, ei, hx, ⟨ol, R, mh, mL, mC, mO, -⟩, rfl⟩, e2⟩
  rw [e2]
  simp only [Option.toList_some, List.cons_append, List.nil_append]
  have hRx := mO.1
  have hxl := (w.2.2.1.2 x (List.mem_of_getElem? hx)).2.2.1
  refine V_get (pc := 5) X fl_X8_154 dX8_operationOf_5 mh.1 mh.2.2.2.1 ?_
  refine V_astore_n (pc := 8) X [(3, .ref _), (0, .ref _), (1, .int _), (2, .int _)] dX8_operationOf_8 rfl (by decide) rfl ?_
  refine V_iload_n (pc := 9) X 3 dX8_operationOf_9 rfl ?_
  refine V_if_lt (pc := 10) X 21 dX8_operationOf_10 (by decide) (fun c10 => ?_) (fun c10 => ?_)
  · exact V_throwW (pc := 21) X Q nt tw_X8_254_273 dX8_operationOf_21 dX8_operationOf_24 dX8_operationOf_25 dX8_operationOf_28 dX8_operationOf_31 (by decide) (by decide) (by omega) ⟨Or.inr ⟨rfl, i, x, ei, hx, fun y => y.1 c10⟩, rfl⟩
  · refine V_iload_n (pc := 13) X 3 dX8_operationOf_13 rfl ?_
    refine V_aload_n (pc := 14) X 0 dX8_operationOf_14 rfl ?_
    refine V_callL (pc := 15) X (Or.inl mh.2.2.2.2.2.1) _ (c_size mh.2.2.2.2.2.1) cw_X8_102 (Q.room (by decide) (by decide)) rfl (Nat.le_of_ble_eq_true rfl) rfl (by omega) dX8_operationOf_15 (fun _ _ z => z.elim) ?_
    rintro v15 h15 ⟨rfl, e15⟩
    rw [e15, mL, hRx]
    simp only [Option.toList_some, List.cons_append, List.nil_append]
    refine V_icmp_lt (pc := 18) X 32 dX8_operationOf_18 (by decide) (fun c18 => ?_) (fun c18 => ?_)
    · obtain ⟨j, hj, ej⟩ := nI_of c10
      rw [ej] at c18 ⊢
      have hjl : j < x.2.2.length := (nI_ltI (by omega) (by omega)).mp c18
      obtain ⟨a, o, ha, ho, hoa⟩ := mO.at (i := j) (by omega)
      refine V_aload_n (pc := 32) X 0 dX8_operationOf_32 rfl ?_
      refine V_iload_n (pc := 33) X 3 dX8_operationOf_33 rfl ?_
      refine V_callL (pc := 34) X (Or.inl mh.2.2.2.2.2.1) _ (c_get (i := j) (x := a) mh.2.2.2.2.2.1 (by rw [mL]; exact ha) (by rw [mL]; omega)) cw_X8_107 (Q.room (by decide) (by decide)) rfl (Nat.le_of_ble_eq_true rfl) rfl (by omega) dX8_operationOf_34 (fun _ _ z => z.elim) ?_
      rintro v34 h34 ⟨rfl, e34⟩
      rw [e34]
      simp only [Option.toList_some, List.cons_append, List.nil_append]
      refine V_cast (pc := 37) X clk6 (by decide) ck_X8_220 hoa.1 dX8_operationOf_37 ?_
      refine V_aret (pc := 40) X Q rfl dX8_operationOf_40 ?_
      exact ⟨⟨i, j, a, x, o, ei, ej, hx, ho, hoa, rfl⟩, rfl⟩
    · exact V_throwW (pc := 21) X Q nt tw_X8_254_273 dX8_operationOf_21 dX8_operationOf_24 dX8_operationOf_25 dX8_operationOf_28 dX8_operationOf_31 (by decide) (by decide) (by omega) ⟨Or.inr ⟨rfl, i, x, ei, hx, fun y => c18 y.2⟩, rfl⟩
