/-! THE MODEL: WHAT CAN BE ASKED -/
theorem RM.th {tb : Nat → Nat × Nat} {F : MS'} {s : SQ} (z : RM tb F s) (w : WS' s) (hH : (hop (zH s)).length ≤ 200) (c : Int32) : RM tb (fu F 900 0 c) s := by
  have k : KE F (fu F 900 0 c) (fun a b => a = 900) := fun a b h => fu_i h
  obtain ⟨z1, z2, z3, z4⟩ := z
  exact ⟨fun i hi => ⟨(z1 i hi).1.ke k (fun a b h _ => by unfold rgE at h; omega) hi (w.1 i hi).1.2.1.1 (w.1 i hi).1.2.2.1.1 (w.1 i hi).1.2.2.2.1.1, (z1 i hi).2.ke k (fun a b h => by unfold rgU at h; omega) (fun m hm => ((w.1 i hi).2.2.1 m hm).2.2.1)⟩, z2.same (fu_i (by decide)) (fun a b h1 h2 _ _ => fu_i (by omega)), z3.ke k (fun a b h1 h2 h3 h4 => by omega) (fun a b h => by omega) ⟨by decide, by decide⟩ hH, (fu_i (by decide)).trans z4⟩
theorem end_iff {x : Int32} : (0 ≤ x ∧ x ≤ 1) ↔ (x = 0 ∨ x = 1) := by
  rw [Int32.le_iff_toInt_le, Int32.le_iff_toInt_le, ← Int32.toInt_inj, ← Int32.toInt_inj]
  have a : (0 : Int32).toInt = 0 := by decide
  have b : (1 : Int32).toInt = 1 := by decide
  rw [a, b]
  omega
/-- the model's object after a call: what it threw, its state -/
def MR (h h1 : AH) (q : Nat) (A : Nat → Nat) (s : SQ) (c : Nat) : Prop := ∃ F', MP h1 q A F' ∧ FM h h1 ∧ RM (zT s) F' s ∧ F' 900 0 = nI c
theorem y_length {E : EV} {h : AH} {q : Nat} {A : Nat → Nat} {F : MS'} {s : SQ} (mp : MP h q A F) (rm : RM (zT s) F s) (w : WS' s) (hH : (hop (zH s)).length ≤ 200) {x : Int32} : Ct E yX9_length cX9_length 2 (some .int) 3 0 [.ref q, .int x] h (fun v h1 => (∃ e : Nat, e ≤ 1 ∧ x = nI e ∧ v = some (.int (nI ((eX (zE s e)).length))) ∧ MR h h1 q A s 0) ∨ (¬ (x = 0 ∨ x = 1) ∧ (∃ u : Int32, v = some (.int u)) ∧ MR h h1 q A s 1)) noX := by
  refine Ct_of RX9 (by decide +kernel) rfl (Nat.le_of_ble_eq_true rfl) (fun Γ X nt Q hin => ?_)
  have gm := FM.refl h
  refine V_aload_n (pc := 0) X 0 dX9_length_0 rfl ?_
  refine V_iconst (pc := 1) (v := 0) X dX9_length_1 (by decide) ?_
  show V _ _ _ _ _ _ (Value.int (nI 0) :: _)
  refine M_put (pc := 2) X mp (i := 900) (by unfold isS; decide) fl_X9_92 dX9_length_2 (fun h2 mp2 fm2 => ?_)
  have gm2 := gm.seq fm2
  have rm2 := rm.th w hH (nI 0)
  refine V_iload_n (pc := 5) X 1 dX9_length_5 rfl ?_
  refine V_callS (pc := 6) X _ m_isEnd cw_X9_140 (Q.room (by decide) (by decide)) rfl (Nat.le_of_ble_eq_true rfl) rfl (by omega) dX9_length_6 (fun _ _ z => z.elim) ?_
  rintro v6 h6 ⟨rfl, e6⟩
  rw [e6]
  simp only [Option.toList_some, List.cons_append, List.nil_append]
  refine V_if_eq (pc := 9) X 21 dX9_length_9 (by decide) (fun c9 => ?_) (fun c9 => ?_)
  · have ke : ¬ (x = 0 ∨ x = 1) := fun y => by rw [if_pos (end_iff.mpr y)] at c9; exact absurd c9 (by decide)
    refine V_aload_n (pc := 21) X 0 dX9_length_21 rfl ?_
    refine V_iconst (pc := 22) (v := 1) X dX9_length_22 (by decide) ?_
    show V _ _ _ _ _ _ (Value.int (nI 1) :: _)
    refine V_callV (pc := 23) X clk9 (by decide) mp2.k _ (m_fails mp2 (c := nI 1)) cw_X9_144 (Q.room (by decide) (by decide)) rfl (Nat.le_of_ble_eq_true rfl) rfl (by omega) dX9_length_23 (fun _ _ z => z.elim) ?_
    rintro v23 h23 ⟨rfl, mp9, fm9⟩
    simp only [Option.toList_some, List.cons_append, List.nil_append]
    refine V_iret (pc := 26) X Q rfl rfl dX9_length_26 ?_
    first
    | exact Or.inl ⟨e, he, rfl, rfl, _, mp2, gm2, rm2, fu_s⟩
    | exact Or.inr ⟨ke, ⟨_, rfl⟩, _, mp9, gm2.seq fm9, rm2.th w hH (nI 1), fu_s⟩
  · have ke : x = 0 ∨ x = 1 := by
      by_cases y : 0 ≤ x ∧ x ≤ 1
      · exact end_iff.mp y
      · rw [if_neg y] at c9; exact absurd rfl c9
    obtain ⟨e, he, rfl⟩ := eq01 ke
    have re := (rm2.1 e he).1
    have ru := (rm2.1 e he).2
    have hx := (w.1 e he).1.1.1
    refine V_aload_n (pc := 12) X 0 dX9_length_12 rfl ?_
    refine V_get (pc := 13) X fl_X9_34 dX9_length_13 mp2.k (mp2.f 909) ?_
    refine V_iload_n (pc := 16) X 1 dX9_length_16 rfl ?_
    refine M_ald (pc := 17) X mp2 ⟨by unfold isA; decide, by decide⟩ (by show _ < 3; omega) dX9_length_17 ?_
    rw [re.2.2.2.2.1.2.1]
    refine V_goto (pc := 18) X 26 dX9_length_18 (by decide) ?_
    refine V_iret (pc := 26) X Q rfl rfl dX9_length_26 ?_
    first
    | exact Or.inl ⟨e, he, rfl, rfl, _, mp2, gm2, rm2, fu_s⟩
    | exact Or.inr ⟨ke, ⟨_, rfl⟩, _, mp9, gm2.seq fm9, rm2.th w hH (nI 1), fu_s⟩
theorem y_cursor {E : EV} {h : AH} {q : Nat} {A : Nat → Nat} {F : MS'} {s : SQ} (mp : MP h q A F) (rm : RM (zT s) F s) (w : WS' s) (hH : (hop (zH s)).length ≤ 200) {x : Int32} : Ct E yX9_cursor cX9_cursor 2 (some .int) 3 0 [.ref q, .int x] h (fun v h1 => (∃ e : Nat, e ≤ 1 ∧ x = nI e ∧ v = some (.int (nI (eC (zE s e)))) ∧ MR h h1 q A s 0) ∨ (¬ (x = 0 ∨ x = 1) ∧ (∃ u : Int32, v = some (.int u)) ∧ MR h h1 q A s 1)) noX := by
  refine Ct_of RX9 (by decide +kernel) rfl (Nat.le_of_ble_eq_true rfl) (fun Γ X nt Q hin => ?_)
  have gm := FM.refl h
  refine V_aload_n (pc := 0) X 0 dX9_cursor_0 rfl ?_
  refine V_iconst (pc := 1) (v := 0) X dX9_cursor_1 (by decide) ?_
  show V _ _ _ _ _ _ (Value.int (nI 0) :: _)
  refine M_put (pc := 2) X mp (i := 900) (by unfold isS; decide) fl_X9_92 dX9_cursor_2 (fun h2 mp2 fm2 => ?_)
  have gm2 := gm.seq fm2
  have rm2 := rm.th w hH (nI 0)
  refine V_iload_n (pc := 5) X 1 dX9_cursor_5 rfl ?_
  refine V_callS (pc := 6) X _ m_isEnd cw_X9_140 (Q.room (by decide) (by decide)) rfl (Nat.le_of_ble_eq_true rfl) rfl (by omega) dX9_cursor_6 (fun _ _ z => z.elim) ?_
  rintro v6 h6 ⟨rfl, e6⟩
  rw [e6]
  simp only [Option.toList_some, List.cons_append, List.nil_append]
  refine V_if_eq (pc := 9) X 21 dX9_cursor_9 (by decide) (fun c9 => ?_) (fun c9 => ?_)
  · have ke : ¬ (x = 0 ∨ x = 1) := fun y => by rw [if_pos (end_iff.mpr y)] at c9; exact absurd c9 (by decide)
    refine V_aload_n (pc := 21) X 0 dX9_cursor_21 rfl ?_
    refine V_iconst (pc := 22) (v := 1) X dX9_cursor_22 (by decide) ?_
    show V _ _ _ _ _ _ (Value.int (nI 1) :: _)
    refine V_callV (pc := 23) X clk9 (by decide) mp2.k _ (m_fails mp2 (c := nI 1)) cw_X9_144 (Q.room (by decide) (by decide)) rfl (Nat.le_of_ble_eq_true rfl) rfl (by omega) dX9_cursor_23 (fun _ _ z => z.elim) ?_
    rintro v23 h23 ⟨rfl, mp9, fm9⟩
    simp only [Option.toList_some, List.cons_append, List.nil_append]
    refine V_iret (pc := 26) X Q rfl rfl dX9_cursor_26 ?_
    first
    | exact Or.inl ⟨e, he, rfl, rfl, _, mp2, gm2, rm2, fu_s⟩
    | exact Or.inr ⟨ke, ⟨_, rfl⟩, _, mp9, gm2.seq fm9, rm2.th w hH (nI 1), fu_s⟩
  · have ke : x = 0 ∨ x = 1 := by
      by_cases y : 0 ≤ x ∧ x ≤ 1
      · exact end_iff.mp y
      · rw [if_neg y] at c9; exact absurd rfl c9
    obtain ⟨e, he, rfl⟩ := eq01 ke
    have re := (rm2.1 e he).1
    have ru := (rm2.1 e he).2
    have hx := (w.1 e he).1.1.1
    refine V_aload_n (pc := 12) X 0 dX9_cursor_12 rfl ?_
    refine V_get (pc := 13) X fl_X9_46 dX9_cursor_13 mp2.k (mp2.f 913) ?_
    refine V_iload_n (pc := 16) X 1 dX9_cursor_16 rfl ?_
    refine M_ald (pc := 17) X mp2 ⟨by unfold isA; decide, by decide⟩ (by show _ < 2; omega) dX9_cursor_17 ?_
    rw [re.2.2.2.2.2.1]
    refine V_goto (pc := 18) X 26 dX9_cursor_18 (by decide) ?_
    refine V_iret (pc := 26) X Q rfl rfl dX9_cursor_26 ?_
    first
    | exact Or.inl ⟨e, he, rfl, rfl, _, mp2, gm2, rm2, fu_s⟩
    | exact Or.inr ⟨ke, ⟨_, rfl⟩, _, mp9, gm2.seq fm9, rm2.th w hH (nI 1), fu_s⟩
theorem y_mark {E : EV} {h : AH} {q : Nat} {A : Nat → Nat} {F : MS'} {s : SQ} (mp : MP h q A F) (rm : RM (zT s) F s) (w : WS' s) (hH : (hop (zH s)).length ≤ 200) {x : Int32} : Ct E yX9_mark cX9_mark 2 (some .int) 3 0 [.ref q, .int x] h (fun v h1 => (∃ e : Nat, e ≤ 1 ∧ x = nI e ∧ v = some (.int (nI (eMk (zE s e)))) ∧ MR h h1 q A s 0) ∨ (¬ (x = 0 ∨ x = 1) ∧ (∃ u : Int32, v = some (.int u)) ∧ MR h h1 q A s 1)) noX := by
  refine Ct_of RX9 (by decide +kernel) rfl (Nat.le_of_ble_eq_true rfl) (fun Γ X nt Q hin => ?_)
  have gm := FM.refl h
  refine V_aload_n (pc := 0) X 0 dX9_mark_0 rfl ?_
  refine V_iconst (pc := 1) (v := 0) X dX9_mark_1 (by decide) ?_
  show V _ _ _ _ _ _ (Value.int (nI 0) :: _)
  refine M_put (pc := 2) X mp (i := 900) (by unfold isS; decide) fl_X9_92 dX9_mark_2 (fun h2 mp2 fm2 => ?_)
  have gm2 := gm.seq fm2
  have rm2 := rm.th w hH (nI 0)
  refine V_iload_n (pc := 5) X 1 dX9_mark_5 rfl ?_
  refine V_callS (pc := 6) X _ m_isEnd cw_X9_140 (Q.room (by decide) (by decide)) rfl (Nat.le_of_ble_eq_true rfl) rfl (by omega) dX9_mark_6 (fun _ _ z => z.elim) ?_
  rintro v6 h6 ⟨rfl, e6⟩
  rw [e6]
  simp only [Option.toList_some, List.cons_append, List.nil_append]
  refine V_if_eq (pc := 9) X 21 dX9_mark_9 (by decide) (fun c9 => ?_) (fun c9 => ?_)
  · have ke : ¬ (x = 0 ∨ x = 1) := fun y => by rw [if_pos (end_iff.mpr y)] at c9; exact absurd c9 (by decide)
    refine V_aload_n (pc := 21) X 0 dX9_mark_21 rfl ?_
    refine V_iconst (pc := 22) (v := 1) X dX9_mark_22 (by decide) ?_
    show V _ _ _ _ _ _ (Value.int (nI 1) :: _)
    refine V_callV (pc := 23) X clk9 (by decide) mp2.k _ (m_fails mp2 (c := nI 1)) cw_X9_144 (Q.room (by decide) (by decide)) rfl (Nat.le_of_ble_eq_true rfl) rfl (by omega) dX9_mark_23 (fun _ _ z => z.elim) ?_
    rintro v23 h23 ⟨rfl, mp9, fm9⟩
    simp only [Option.toList_some, List.cons_append, List.nil_append]
    refine V_iret (pc := 26) X Q rfl rfl dX9_mark_26 ?_
    first
    | exact Or.inl ⟨e, he, rfl, rfl, _, mp2, gm2, rm2, fu_s⟩
    | exact Or.inr ⟨ke, ⟨_, rfl⟩, _, mp9, gm2.seq fm9, rm2.th w hH (nI 1), fu_s⟩
  · have ke : x = 0 ∨ x = 1 := by
      by_cases y : 0 ≤ x ∧ x ≤ 1
      · exact end_iff.mp y
      · rw [if_neg y] at c9; exact absurd rfl c9
    obtain ⟨e, he, rfl⟩ := eq01 ke
    have re := (rm2.1 e he).1
    have ru := (rm2.1 e he).2
    have hx := (w.1 e he).1.1.1
    refine V_aload_n (pc := 12) X 0 dX9_mark_12 rfl ?_
    refine V_get (pc := 13) X fl_X9_49 dX9_mark_13 mp2.k (mp2.f 914) ?_
    refine V_iload_n (pc := 16) X 1 dX9_mark_16 rfl ?_
    refine M_ald (pc := 17) X mp2 ⟨by unfold isA; decide, by decide⟩ (by show _ < 2; omega) dX9_mark_17 ?_
    rw [re.2.2.2.2.2.2.1]
    refine V_goto (pc := 18) X 26 dX9_mark_18 (by decide) ?_
    refine V_iret (pc := 26) X Q rfl rfl dX9_mark_26 ?_
    first
    | exact Or.inl ⟨e, he, rfl, rfl, _, mp2, gm2, rm2, fu_s⟩
    | exact Or.inr ⟨ke, ⟨_, rfl⟩, _, mp9, gm2.seq fm9, rm2.th w hH (nI 1), fu_s⟩
theorem y_revision {E : EV} {h : AH} {q : Nat} {A : Nat → Nat} {F : MS'} {s : SQ} (mp : MP h q A F) (rm : RM (zT s) F s) (w : WS' s) (hH : (hop (zH s)).length ≤ 200) {x : Int32} : Ct E yX9_revision cX9_revision 2 (some .int) 3 0 [.ref q, .int x] h (fun v h1 => (∃ e : Nat, e ≤ 1 ∧ x = nI e ∧ v = some (.int (nI (eR (zE s e)))) ∧ MR h h1 q A s 0) ∨ (¬ (x = 0 ∨ x = 1) ∧ (∃ u : Int32, v = some (.int u)) ∧ MR h h1 q A s 1)) noX := by
  refine Ct_of RX9 (by decide +kernel) rfl (Nat.le_of_ble_eq_true rfl) (fun Γ X nt Q hin => ?_)
  have gm := FM.refl h
  refine V_aload_n (pc := 0) X 0 dX9_revision_0 rfl ?_
  refine V_iconst (pc := 1) (v := 0) X dX9_revision_1 (by decide) ?_
  show V _ _ _ _ _ _ (Value.int (nI 0) :: _)
  refine M_put (pc := 2) X mp (i := 900) (by unfold isS; decide) fl_X9_92 dX9_revision_2 (fun h2 mp2 fm2 => ?_)
  have gm2 := gm.seq fm2
  have rm2 := rm.th w hH (nI 0)
  refine V_iload_n (pc := 5) X 1 dX9_revision_5 rfl ?_
  refine V_callS (pc := 6) X _ m_isEnd cw_X9_140 (Q.room (by decide) (by decide)) rfl (Nat.le_of_ble_eq_true rfl) rfl (by omega) dX9_revision_6 (fun _ _ z => z.elim) ?_
  rintro v6 h6 ⟨rfl, e6⟩
  rw [e6]
  simp only [Option.toList_some, List.cons_append, List.nil_append]
  refine V_if_eq (pc := 9) X 21 dX9_revision_9 (by decide) (fun c9 => ?_) (fun c9 => ?_)
  · have ke : ¬ (x = 0 ∨ x = 1) := fun y => by rw [if_pos (end_iff.mpr y)] at c9; exact absurd c9 (by decide)
    refine V_aload_n (pc := 21) X 0 dX9_revision_21 rfl ?_
    refine V_iconst (pc := 22) (v := 1) X dX9_revision_22 (by decide) ?_
    show V _ _ _ _ _ _ (Value.int (nI 1) :: _)
    refine V_callV (pc := 23) X clk9 (by decide) mp2.k _ (m_fails mp2 (c := nI 1)) cw_X9_144 (Q.room (by decide) (by decide)) rfl (Nat.le_of_ble_eq_true rfl) rfl (by omega) dX9_revision_23 (fun _ _ z => z.elim) ?_
    rintro v23 h23 ⟨rfl, mp9, fm9⟩
    simp only [Option.toList_some, List.cons_append, List.nil_append]
    refine V_iret (pc := 26) X Q rfl rfl dX9_revision_26 ?_
    first
    | exact Or.inl ⟨e, he, rfl, rfl, _, mp2, gm2, rm2, fu_s⟩
    | exact Or.inr ⟨ke, ⟨_, rfl⟩, _, mp9, gm2.seq fm9, rm2.th w hH (nI 1), fu_s⟩
  · have ke : x = 0 ∨ x = 1 := by
      by_cases y : 0 ≤ x ∧ x ≤ 1
      · exact end_iff.mp y
      · rw [if_neg y] at c9; exact absurd rfl c9
    obtain ⟨e, he, rfl⟩ := eq01 ke
    have re := (rm2.1 e he).1
    have ru := (rm2.1 e he).2
    have hx := (w.1 e he).1.1.1
    refine V_aload_n (pc := 12) X 0 dX9_revision_12 rfl ?_
    refine V_get (pc := 13) X fl_X9_43 dX9_revision_13 mp2.k (mp2.f 912) ?_
    refine V_iload_n (pc := 16) X 1 dX9_revision_16 rfl ?_
    refine M_ald (pc := 17) X mp2 ⟨by unfold isA; decide, by decide⟩ (by show _ < 2; omega) dX9_revision_17 ?_
    rw [re.2.2.2.2.2.2.2.1]
    refine V_goto (pc := 18) X 26 dX9_revision_18 (by decide) ?_
    refine V_iret (pc := 26) X Q rfl rfl dX9_revision_26 ?_
    first
    | exact Or.inl ⟨e, he, rfl, rfl, _, mp2, gm2, rm2, fu_s⟩
    | exact Or.inr ⟨ke, ⟨_, rfl⟩, _, mp9, gm2.seq fm9, rm2.th w hH (nI 1), fu_s⟩
theorem y_sent {E : EV} {h : AH} {q : Nat} {A : Nat → Nat} {F : MS'} {s : SQ} (mp : MP h q A F) (rm : RM (zT s) F s) (w : WS' s) (hH : (hop (zH s)).length ≤ 200) {x : Int32} : Ct E yX9_sent cX9_sent 2 (some .int) 3 0 [.ref q, .int x] h (fun v h1 => (∃ e : Nat, e ≤ 1 ∧ x = nI e ∧ v = some (.int (nI ((eS (zE s e)).length))) ∧ MR h h1 q A s 0) ∨ (¬ (x = 0 ∨ x = 1) ∧ (∃ u : Int32, v = some (.int u)) ∧ MR h h1 q A s 1)) noX := by
  refine Ct_of RX9 (by decide +kernel) rfl (Nat.le_of_ble_eq_true rfl) (fun Γ X nt Q hin => ?_)
  have gm := FM.refl h
  refine V_aload_n (pc := 0) X 0 dX9_sent_0 rfl ?_
  refine V_iconst (pc := 1) (v := 0) X dX9_sent_1 (by decide) ?_
  show V _ _ _ _ _ _ (Value.int (nI 0) :: _)
  refine M_put (pc := 2) X mp (i := 900) (by unfold isS; decide) fl_X9_92 dX9_sent_2 (fun h2 mp2 fm2 => ?_)
  have gm2 := gm.seq fm2
  have rm2 := rm.th w hH (nI 0)
  refine V_iload_n (pc := 5) X 1 dX9_sent_5 rfl ?_
  refine V_callS (pc := 6) X _ m_isEnd cw_X9_140 (Q.room (by decide) (by decide)) rfl (Nat.le_of_ble_eq_true rfl) rfl (by omega) dX9_sent_6 (fun _ _ z => z.elim) ?_
  rintro v6 h6 ⟨rfl, e6⟩
  rw [e6]
  simp only [Option.toList_some, List.cons_append, List.nil_append]
  refine V_if_eq (pc := 9) X 21 dX9_sent_9 (by decide) (fun c9 => ?_) (fun c9 => ?_)
  · have ke : ¬ (x = 0 ∨ x = 1) := fun y => by rw [if_pos (end_iff.mpr y)] at c9; exact absurd c9 (by decide)
    refine V_aload_n (pc := 21) X 0 dX9_sent_21 rfl ?_
    refine V_iconst (pc := 22) (v := 1) X dX9_sent_22 (by decide) ?_
    show V _ _ _ _ _ _ (Value.int (nI 1) :: _)
    refine V_callV (pc := 23) X clk9 (by decide) mp2.k _ (m_fails mp2 (c := nI 1)) cw_X9_144 (Q.room (by decide) (by decide)) rfl (Nat.le_of_ble_eq_true rfl) rfl (by omega) dX9_sent_23 (fun _ _ z => z.elim) ?_
    rintro v23 h23 ⟨rfl, mp9, fm9⟩
    simp only [Option.toList_some, List.cons_append, List.nil_append]
    refine V_iret (pc := 26) X Q rfl rfl dX9_sent_26 ?_
    first
    | exact Or.inl ⟨e, he, rfl, rfl, _, mp2, gm2, rm2, fu_s⟩
    | exact Or.inr ⟨ke, ⟨_, rfl⟩, _, mp9, gm2.seq fm9, rm2.th w hH (nI 1), fu_s⟩
  · have ke : x = 0 ∨ x = 1 := by
      by_cases y : 0 ≤ x ∧ x ≤ 1
      · exact end_iff.mp y
      · rw [if_neg y] at c9; exact absurd rfl c9
    obtain ⟨e, he, rfl⟩ := eq01 ke
    have re := (rm2.1 e he).1
    have ru := (rm2.1 e he).2
    have hx := (w.1 e he).1.1.1
    refine V_aload_n (pc := 12) X 0 dX9_sent_12 rfl ?_
    refine V_get (pc := 13) X fl_X9_37 dX9_sent_13 mp2.k (mp2.f 910) ?_
    refine V_iload_n (pc := 16) X 1 dX9_sent_16 rfl ?_
    refine M_ald (pc := 17) X mp2 ⟨by unfold isA; decide, by decide⟩ (by show _ < 2; omega) dX9_sent_17 ?_
    rw [re.1]
    refine V_goto (pc := 18) X 26 dX9_sent_18 (by decide) ?_
    refine V_iret (pc := 26) X Q rfl rfl dX9_sent_26 ?_
    first
    | exact Or.inl ⟨e, he, rfl, rfl, _, mp2, gm2, rm2, fu_s⟩
    | exact Or.inr ⟨ke, ⟨_, rfl⟩, _, mp9, gm2.seq fm9, rm2.th w hH (nI 1), fu_s⟩
theorem y_waiting {E : EV} {h : AH} {q : Nat} {A : Nat → Nat} {F : MS'} {s : SQ} (mp : MP h q A F) (rm : RM (zT s) F s) (w : WS' s) (hH : (hop (zH s)).length ≤ 200) {x : Int32} : Ct E yX9_waiting cX9_waiting 2 (some .int) 3 0 [.ref q, .int x] h (fun v h1 => (∃ e : Nat, e ≤ 1 ∧ x = nI e ∧ v = some (.int (nI ((eW (zE s e)).length))) ∧ MR h h1 q A s 0) ∨ (¬ (x = 0 ∨ x = 1) ∧ (∃ u : Int32, v = some (.int u)) ∧ MR h h1 q A s 1)) noX := by
  refine Ct_of RX9 (by decide +kernel) rfl (Nat.le_of_ble_eq_true rfl) (fun Γ X nt Q hin => ?_)
  have gm := FM.refl h
  refine V_aload_n (pc := 0) X 0 dX9_waiting_0 rfl ?_
  refine V_iconst (pc := 1) (v := 0) X dX9_waiting_1 (by decide) ?_
  show V _ _ _ _ _ _ (Value.int (nI 0) :: _)
  refine M_put (pc := 2) X mp (i := 900) (by unfold isS; decide) fl_X9_92 dX9_waiting_2 (fun h2 mp2 fm2 => ?_)
  have gm2 := gm.seq fm2
  have rm2 := rm.th w hH (nI 0)
  refine V_iload_n (pc := 5) X 1 dX9_waiting_5 rfl ?_
  refine V_callS (pc := 6) X _ m_isEnd cw_X9_140 (Q.room (by decide) (by decide)) rfl (Nat.le_of_ble_eq_true rfl) rfl (by omega) dX9_waiting_6 (fun _ _ z => z.elim) ?_
  rintro v6 h6 ⟨rfl, e6⟩
  rw [e6]
  simp only [Option.toList_some, List.cons_append, List.nil_append]
  refine V_if_eq (pc := 9) X 21 dX9_waiting_9 (by decide) (fun c9 => ?_) (fun c9 => ?_)
  · have ke : ¬ (x = 0 ∨ x = 1) := fun y => by rw [if_pos (end_iff.mpr y)] at c9; exact absurd c9 (by decide)
    refine V_aload_n (pc := 21) X 0 dX9_waiting_21 rfl ?_
    refine V_iconst (pc := 22) (v := 1) X dX9_waiting_22 (by decide) ?_
    show V _ _ _ _ _ _ (Value.int (nI 1) :: _)
    refine V_callV (pc := 23) X clk9 (by decide) mp2.k _ (m_fails mp2 (c := nI 1)) cw_X9_144 (Q.room (by decide) (by decide)) rfl (Nat.le_of_ble_eq_true rfl) rfl (by omega) dX9_waiting_23 (fun _ _ z => z.elim) ?_
    rintro v23 h23 ⟨rfl, mp9, fm9⟩
    simp only [Option.toList_some, List.cons_append, List.nil_append]
    refine V_iret (pc := 26) X Q rfl rfl dX9_waiting_26 ?_
    first
    | exact Or.inl ⟨e, he, rfl, rfl, _, mp2, gm2, rm2, fu_s⟩
    | exact Or.inr ⟨ke, ⟨_, rfl⟩, _, mp9, gm2.seq fm9, rm2.th w hH (nI 1), fu_s⟩
  · have ke : x = 0 ∨ x = 1 := by
      by_cases y : 0 ≤ x ∧ x ≤ 1
      · exact end_iff.mp y
      · rw [if_neg y] at c9; exact absurd rfl c9
    obtain ⟨e, he, rfl⟩ := eq01 ke
    have re := (rm2.1 e he).1
    have ru := (rm2.1 e he).2
    have hx := (w.1 e he).1.1.1
    refine V_aload_n (pc := 12) X 0 dX9_waiting_12 rfl ?_
    refine V_get (pc := 13) X fl_X9_40 dX9_waiting_13 mp2.k (mp2.f 911) ?_
    refine V_iload_n (pc := 16) X 1 dX9_waiting_16 rfl ?_
    refine M_ald (pc := 17) X mp2 ⟨by unfold isA; decide, by decide⟩ (by show _ < 2; omega) dX9_waiting_17 ?_
    rw [re.2.2.1]
    refine V_goto (pc := 18) X 26 dX9_waiting_18 (by decide) ?_
    refine V_iret (pc := 26) X Q rfl rfl dX9_waiting_26 ?_
    first
    | exact Or.inl ⟨e, he, rfl, rfl, _, mp2, gm2, rm2, fu_s⟩
    | exact Or.inr ⟨ke, ⟨_, rfl⟩, _, mp9, gm2.seq fm9, rm2.th w hH (nI 1), fu_s⟩
theorem y_kept {E : EV} {h : AH} {q : Nat} {A : Nat → Nat} {F : MS'} {s : SQ} (mp : MP h q A F) (rm : RM (zT s) F s) (w : WS' s) (hH : (hop (zH s)).length ≤ 200) {x : Int32} : Ct E yX9_kept cX9_kept 2 (some .int) 3 0 [.ref q, .int x] h (fun v h1 => (∃ e : Nat, e ≤ 1 ∧ x = nI e ∧ v = some (.int (nI ((eK (zE s e)).length))) ∧ MR h h1 q A s 0) ∨ (¬ (x = 0 ∨ x = 1) ∧ (∃ u : Int32, v = some (.int u)) ∧ MR h h1 q A s 1)) noX := by
  refine Ct_of RX9 (by decide +kernel) rfl (Nat.le_of_ble_eq_true rfl) (fun Γ X nt Q hin => ?_)
  have gm := FM.refl h
  refine V_aload_n (pc := 0) X 0 dX9_kept_0 rfl ?_
  refine V_iconst (pc := 1) (v := 0) X dX9_kept_1 (by decide) ?_
  show V _ _ _ _ _ _ (Value.int (nI 0) :: _)
  refine M_put (pc := 2) X mp (i := 900) (by unfold isS; decide) fl_X9_92 dX9_kept_2 (fun h2 mp2 fm2 => ?_)
  have gm2 := gm.seq fm2
  have rm2 := rm.th w hH (nI 0)
  refine V_iload_n (pc := 5) X 1 dX9_kept_5 rfl ?_
  refine V_callS (pc := 6) X _ m_isEnd cw_X9_140 (Q.room (by decide) (by decide)) rfl (Nat.le_of_ble_eq_true rfl) rfl (by omega) dX9_kept_6 (fun _ _ z => z.elim) ?_
  rintro v6 h6 ⟨rfl, e6⟩
  rw [e6]
  simp only [Option.toList_some, List.cons_append, List.nil_append]
  refine V_if_eq (pc := 9) X 21 dX9_kept_9 (by decide) (fun c9 => ?_) (fun c9 => ?_)
  · have ke : ¬ (x = 0 ∨ x = 1) := fun y => by rw [if_pos (end_iff.mpr y)] at c9; exact absurd c9 (by decide)
    refine V_aload_n (pc := 21) X 0 dX9_kept_21 rfl ?_
    refine V_iconst (pc := 22) (v := 1) X dX9_kept_22 (by decide) ?_
    show V _ _ _ _ _ _ (Value.int (nI 1) :: _)
    refine V_callV (pc := 23) X clk9 (by decide) mp2.k _ (m_fails mp2 (c := nI 1)) cw_X9_144 (Q.room (by decide) (by decide)) rfl (Nat.le_of_ble_eq_true rfl) rfl (by omega) dX9_kept_23 (fun _ _ z => z.elim) ?_
    rintro v23 h23 ⟨rfl, mp9, fm9⟩
    simp only [Option.toList_some, List.cons_append, List.nil_append]
    refine V_iret (pc := 26) X Q rfl rfl dX9_kept_26 ?_
    first
    | exact Or.inl ⟨e, he, rfl, rfl, _, mp2, gm2, rm2, fu_s⟩
    | exact Or.inr ⟨ke, ⟨_, rfl⟩, _, mp9, gm2.seq fm9, rm2.th w hH (nI 1), fu_s⟩
  · have ke : x = 0 ∨ x = 1 := by
      by_cases y : 0 ≤ x ∧ x ≤ 1
      · exact end_iff.mp y
      · rw [if_neg y] at c9; exact absurd rfl c9
    obtain ⟨e, he, rfl⟩ := eq01 ke
    have re := (rm2.1 e he).1
    have ru := (rm2.1 e he).2
    have hx := (w.1 e he).1.1.1
    refine V_aload_n (pc := 12) X 0 dX9_kept_12 rfl ?_
    refine V_get (pc := 13) X fl_X9_77 dX9_kept_13 mp2.k (mp2.f 923) ?_
    refine V_iload_n (pc := 16) X 1 dX9_kept_16 rfl ?_
    refine M_ald (pc := 17) X mp2 ⟨by unfold isA; decide, by decide⟩ (by show _ < 2; omega) dX9_kept_17 ?_
    rw [re.2.2.2.2.2.2.2.2.2.1]
    refine V_goto (pc := 18) X 26 dX9_kept_18 (by decide) ?_
    refine V_iret (pc := 26) X Q rfl rfl dX9_kept_26 ?_
    first
    | exact Or.inl ⟨e, he, rfl, rfl, _, mp2, gm2, rm2, fu_s⟩
    | exact Or.inr ⟨ke, ⟨_, rfl⟩, _, mp9, gm2.seq fm9, rm2.th w hH (nI 1), fu_s⟩
theorem y_down {E : EV} {h : AH} {q : Nat} {A : Nat → Nat} {F : MS'} {s : SQ} (mp : MP h q A F) (rm : RM (zT s) F s) (w : WS' s) (hH : (hop (zH s)).length ≤ 200) {x : Int32} : Ct E yX9_down cX9_down 2 (some .int) 3 0 [.ref q, .int x] h (fun v h1 => (∃ e : Nat, e ≤ 1 ∧ x = nI e ∧ v = some (.int (nI ((zH s).length - eR (zE s e)))) ∧ MR h h1 q A s 0) ∨ (¬ (x = 0 ∨ x = 1) ∧ (∃ u : Int32, v = some (.int u)) ∧ MR h h1 q A s 1)) noX := by
  refine Ct_of RX9 (by decide +kernel) rfl (Nat.le_of_ble_eq_true rfl) (fun Γ X nt Q hin => ?_)
  have gm := FM.refl h
  refine V_aload_n (pc := 0) X 0 dX9_down_0 rfl ?_
  refine V_iconst (pc := 1) (v := 0) X dX9_down_1 (by decide) ?_
  show V _ _ _ _ _ _ (Value.int (nI 0) :: _)
  refine M_put (pc := 2) X mp (i := 900) (by unfold isS; decide) fl_X9_92 dX9_down_2 (fun h2 mp2 fm2 => ?_)
  have gm2 := gm.seq fm2
  have rm2 := rm.th w hH (nI 0)
  refine V_iload_n (pc := 5) X 1 dX9_down_5 rfl ?_
  refine V_callS (pc := 6) X _ m_isEnd cw_X9_140 (Q.room (by decide) (by decide)) rfl (Nat.le_of_ble_eq_true rfl) rfl (by omega) dX9_down_6 (fun _ _ z => z.elim) ?_
  rintro v6 h6 ⟨rfl, e6⟩
  rw [e6]
  simp only [Option.toList_some, List.cons_append, List.nil_append]
  refine V_if_eq (pc := 9) X 26 dX9_down_9 (by decide) (fun c9 => ?_) (fun c9 => ?_)
  · have ke : ¬ (x = 0 ∨ x = 1) := fun y => by rw [if_pos (end_iff.mpr y)] at c9; exact absurd c9 (by decide)
    refine V_aload_n (pc := 26) X 0 dX9_down_26 rfl ?_
    refine V_iconst (pc := 27) (v := 1) X dX9_down_27 (by decide) ?_
    show V _ _ _ _ _ _ (Value.int (nI 1) :: _)
    refine V_callV (pc := 28) X clk9 (by decide) mp2.k _ (m_fails mp2 (c := nI 1)) cw_X9_144 (Q.room (by decide) (by decide)) rfl (Nat.le_of_ble_eq_true rfl) rfl (by omega) dX9_down_28 (fun _ _ z => z.elim) ?_
    rintro v23 h23 ⟨rfl, mp9, fm9⟩
    simp only [Option.toList_some, List.cons_append, List.nil_append]
    refine V_iret (pc := 31) X Q rfl rfl dX9_down_31 ?_
    first
    | exact Or.inl ⟨e, he, rfl, rfl, _, mp2, gm2, rm2, fu_s⟩
    | exact Or.inr ⟨ke, ⟨_, rfl⟩, _, mp9, gm2.seq fm9, rm2.th w hH (nI 1), fu_s⟩
  · have ke : x = 0 ∨ x = 1 := by
      by_cases y : 0 ≤ x ∧ x ≤ 1
      · exact end_iff.mp y
      · rw [if_neg y] at c9; exact absurd rfl c9
    obtain ⟨e, he, rfl⟩ := eq01 ke
    have re := (rm2.1 e he).1
    have ru := (rm2.1 e he).2
    have hx := (w.1 e he).1.1.1
    have hrv := (w.1 e he).2.2.2
    have hHl := w.2.2.1.1
    refine V_aload_n (pc := 12) X 0 dX9_down_12 rfl ?_
    refine V_get (pc := 13) X fl_X9_169 dX9_down_13 mp2.k (mp2.s 927) ?_
    rw [rm2.2.2.1.1]
    refine V_aload_n (pc := 16) X 0 dX9_down_16 rfl ?_
    refine V_get (pc := 17) X fl_X9_43 dX9_down_17 mp2.k (mp2.f 912) ?_
    refine V_iload_n (pc := 20) X 1 dX9_down_20 rfl ?_
    refine M_ald (pc := 21) X mp2 ⟨by unfold isA; decide, by decide⟩ (by show _ < 2; omega) dX9_down_21 ?_
    rw [re.2.2.2.2.2.2.2.1]
    refine V_isub (pc := 22) X dX9_down_22 ?_
    rw [pk_sub (by omega)]
    refine V_goto (pc := 23) X 31 dX9_down_23 (by decide) ?_
    refine V_iret (pc := 31) X Q rfl rfl dX9_down_31 ?_
    first
    | exact Or.inl ⟨e, he, rfl, rfl, _, mp2, gm2, rm2, fu_s⟩
    | exact Or.inr ⟨ke, ⟨_, rfl⟩, _, mp9, gm2.seq fm9, rm2.th w hH (nI 1), fu_s⟩
theorem y_up {E : EV} {h : AH} {q : Nat} {A : Nat → Nat} {F : MS'} {s : SQ} (mp : MP h q A F) (rm : RM (zT s) F s) (w : WS' s) (hH : (hop (zH s)).length ≤ 200) {x : Int32} : Ct E yX9_up cX9_up 2 (some .int) 3 0 [.ref q, .int x] h (fun v h1 => (∃ e : Nat, e ≤ 1 ∧ x = nI e ∧ v = some (.int (nI ((zU s e).length))) ∧ MR h h1 q A s 0) ∨ (¬ (x = 0 ∨ x = 1) ∧ (∃ u : Int32, v = some (.int u)) ∧ MR h h1 q A s 1)) noX := by
  refine Ct_of RX9 (by decide +kernel) rfl (Nat.le_of_ble_eq_true rfl) (fun Γ X nt Q hin => ?_)
  have gm := FM.refl h
  refine V_aload_n (pc := 0) X 0 dX9_up_0 rfl ?_
  refine V_iconst (pc := 1) (v := 0) X dX9_up_1 (by decide) ?_
  show V _ _ _ _ _ _ (Value.int (nI 0) :: _)
  refine M_put (pc := 2) X mp (i := 900) (by unfold isS; decide) fl_X9_92 dX9_up_2 (fun h2 mp2 fm2 => ?_)
  have gm2 := gm.seq fm2
  have rm2 := rm.th w hH (nI 0)
  refine V_iload_n (pc := 5) X 1 dX9_up_5 rfl ?_
  refine V_callS (pc := 6) X _ m_isEnd cw_X9_140 (Q.room (by decide) (by decide)) rfl (Nat.le_of_ble_eq_true rfl) rfl (by omega) dX9_up_6 (fun _ _ z => z.elim) ?_
  rintro v6 h6 ⟨rfl, e6⟩
  rw [e6]
  simp only [Option.toList_some, List.cons_append, List.nil_append]
  refine V_if_ne (pc := 9) X 18 dX9_up_9 (by decide) (fun c9 => ?_) (fun c9 => ?_)
  · have ke : x = 0 ∨ x = 1 := by
      by_cases y : 0 ≤ x ∧ x ≤ 1
      · exact end_iff.mp y
      · rw [if_neg y] at c9; exact absurd rfl c9
    obtain ⟨e, he, rfl⟩ := eq01 ke
    have re := (rm2.1 e he).1
    have ru := (rm2.1 e he).2
    have hx := (w.1 e he).1.1.1
    have hU1 := (w.1 e he).2.1
    refine V_aload_n (pc := 18) X 0 dX9_up_18 rfl ?_
    refine V_get (pc := 19) X fl_X9_62 dX9_up_19 mp2.k (mp2.f 918) ?_
    refine V_iload_n (pc := 22) X 1 dX9_up_22 rfl ?_
    refine M_zld (pc := 23) X mp2 (by decide) (by omega) dX9_up_23 ?_
    rw [ru.1]
    refine V_if_eq (pc := 24) X 31 dX9_up_24 (by decide) (fun c24 => ?_) (fun c24 => ?_)
    · have k24 : (zU s e).length = 0 := by
        by_cases y : zU s e = []
        · rw [y]; rfl
        · rw [if_neg y] at c24; exact absurd c24 (by decide)
      refine V_iconst (pc := 31) (v := 0) X dX9_up_31 (by decide) ?_
      show V _ _ _ _ _ _ (Value.int (nI 0) :: _)
      refine V_iret (pc := 32) X Q rfl rfl dX9_up_32 ?_
      exact Or.inl ⟨e, he, rfl, by rw [k24], _, mp2, gm2, rm2, fu_s⟩
    · have k24 : (zU s e).length = 1 := by
        by_cases y : zU s e = []
        · rw [if_pos y] at c24; exact absurd rfl c24
        · have : (zU s e).length ≠ 0 := fun u => y (List.length_eq_zero_iff.mp u)
          omega
      refine V_iconst (pc := 27) (v := 1) X dX9_up_27 (by decide) ?_
      show V _ _ _ _ _ _ (Value.int (nI 1) :: _)
      refine V_goto (pc := 28) X 32 dX9_up_28 (by decide) ?_
      refine V_iret (pc := 32) X Q rfl rfl dX9_up_32 ?_
      exact Or.inl ⟨e, he, rfl, by rw [k24], _, mp2, gm2, rm2, fu_s⟩
  · have ke : ¬ (x = 0 ∨ x = 1) := fun y => by rw [if_pos (end_iff.mpr y)] at c9; exact absurd c9 (by decide)
    refine V_aload_n (pc := 12) X 0 dX9_up_12 rfl ?_
    refine V_iconst (pc := 13) (v := 1) X dX9_up_13 (by decide) ?_
    show V _ _ _ _ _ _ (Value.int (nI 1) :: _)
    refine V_callV (pc := 14) X clk9 (by decide) mp2.k _ (m_fails mp2 (c := nI 1)) cw_X9_144 (Q.room (by decide) (by decide)) rfl (Nat.le_of_ble_eq_true rfl) rfl (by omega) dX9_up_14 (fun _ _ z => z.elim) ?_
    rintro v23 h23 ⟨rfl, mp9, fm9⟩
    simp only [Option.toList_some, List.cons_append, List.nil_append]
    refine V_iret (pc := 17) X Q rfl rfl dX9_up_17 ?_
    first
    | exact Or.inl ⟨e, he, rfl, rfl, _, mp2, gm2, rm2, fu_s⟩
    | exact Or.inr ⟨ke, ⟨_, rfl⟩, _, mp9, gm2.seq fm9, rm2.th w hH (nI 1), fu_s⟩
theorem y_centreLength {E : EV} {h : AH} {q : Nat} {A : Nat → Nat} {F : MS'} {s : SQ} (mp : MP h q A F) (rm : RM (zT s) F s) (w : WS' s) (hH : (hop (zH s)).length ≤ 200)  : Ct E yX9_centreLength cX9_centreLength 1 (some .int) 3 0 [.ref q] h (fun v h1 => v = some (.int (nI (zC s).length)) ∧ MR h h1 q A s 0) noX := by
  refine Ct_of RX9 (by decide +kernel) rfl (Nat.le_of_ble_eq_true rfl) (fun Γ X nt Q hin => ?_)
  have gm := FM.refl h
  refine V_aload_n (pc := 0) X 0 dX9_centreLength_0 rfl ?_
  refine V_iconst (pc := 1) (v := 0) X dX9_centreLength_1 (by decide) ?_
  show V _ _ _ _ _ _ (Value.int (nI 0) :: _)
  refine M_put (pc := 2) X mp (i := 900) (by unfold isS; decide) fl_X9_92 dX9_centreLength_2 (fun h2 mp2 fm2 => ?_)
  have gm2 := gm.seq fm2
  have rm2 := rm.th w hH (nI 0)
  refine V_aload_n (pc := 5) X 0 dX9_centreLength_5 rfl ?_
  refine V_get (pc := 6) X fl_X9_34 dX9_centreLength_6 mp2.k (mp2.f 909) ?_
  refine V_iconst (pc := 9) (v := 2) X dX9_centreLength_9 (by decide) ?_
  show V _ _ _ _ _ _ (Value.int (nI 2) :: _)
  refine M_ald (pc := 10) X mp2 ⟨by unfold isA; decide, by decide⟩ (by show _ < 3; omega) dX9_centreLength_10 ?_
  rw [rm2.2.1.2.1]
  refine V_iret (pc := 11) X Q rfl rfl dX9_centreLength_11 ?_
  exact ⟨rfl, _, mp2, gm2, rm2, fu_s⟩
theorem y_centreRevision {E : EV} {h : AH} {q : Nat} {A : Nat → Nat} {F : MS'} {s : SQ} (mp : MP h q A F) (rm : RM (zT s) F s) (w : WS' s) (hH : (hop (zH s)).length ≤ 200)  : Ct E yX9_centreRevision cX9_centreRevision 1 (some .int) 3 0 [.ref q] h (fun v h1 => v = some (.int (nI (zH s).length)) ∧ MR h h1 q A s 0) noX := by
  refine Ct_of RX9 (by decide +kernel) rfl (Nat.le_of_ble_eq_true rfl) (fun Γ X nt Q hin => ?_)
  have gm := FM.refl h
  refine V_aload_n (pc := 0) X 0 dX9_centreRevision_0 rfl ?_
  refine V_iconst (pc := 1) (v := 0) X dX9_centreRevision_1 (by decide) ?_
  show V _ _ _ _ _ _ (Value.int (nI 0) :: _)
  refine M_put (pc := 2) X mp (i := 900) (by unfold isS; decide) fl_X9_92 dX9_centreRevision_2 (fun h2 mp2 fm2 => ?_)
  have gm2 := gm.seq fm2
  have rm2 := rm.th w hH (nI 0)
  refine V_aload_n (pc := 5) X 0 dX9_centreRevision_5 rfl ?_
  refine V_get (pc := 6) X fl_X9_169 dX9_centreRevision_6 mp2.k (mp2.s 927) ?_
  rw [rm2.2.2.1.1]
  refine V_iret (pc := 9) X Q rfl rfl dX9_centreRevision_9 ?_
  exact ⟨rfl, _, mp2, gm2, rm2, fu_s⟩
theorem y_runs {E : EV} {h : AH} {q : Nat} {A : Nat → Nat} {F : MS'} {s : SQ} (mp : MP h q A F) (rm : RM (zT s) F s) (w : WS' s) (hH : (hop (zH s)).length ≤ 200) (h0 : ∀ e, e ≤ 1 → ∀ o ∈ eW (zE s e), o.1 ≠ 0) {x : Int32} : Ct E yX9_runs cX9_runs 4 (some .int) 4 0 [.ref q, .int x] h (fun v h1 => (∃ e : Nat, e ≤ 1 ∧ x = nI e ∧ v = some (.int (nI (crn (eW (zE s e))))) ∧ MR h h1 q A s 0) ∨ (¬ (x = 0 ∨ x = 1) ∧ (∃ u : Int32, v = some (.int u)) ∧ MR h h1 q A s 1)) noX := by
  refine Ct_of RX9 (by decide +kernel) rfl (Nat.le_of_ble_eq_true rfl) (fun Γ X nt Q hin => ?_)
  have gm := FM.refl h
  refine V_aload_n (pc := 0) X 0 dX9_runs_0 rfl ?_
  refine V_iconst (pc := 1) (v := 0) X dX9_runs_1 (by decide) ?_
  show V _ _ _ _ _ _ (Value.int (nI 0) :: _)
  refine M_put (pc := 2) X mp (i := 900) (by unfold isS; decide) fl_X9_92 dX9_runs_2 (fun h2 mp2 fm2 => ?_)
  have gm2 := gm.seq fm2
  have rm2 := rm.th w hH (nI 0)
  refine V_iload_n (pc := 5) X 1 dX9_runs_5 rfl ?_
  refine V_callS (pc := 6) X _ m_isEnd cw_X9_140 (Q.room (by decide) (by decide)) rfl (Nat.le_of_ble_eq_true rfl) rfl (by omega) dX9_runs_6 (fun _ _ z => z.elim) ?_
  rintro v6 h6 ⟨rfl, e6⟩
  rw [e6]
  simp only [Option.toList_some, List.cons_append, List.nil_append]
  refine V_if_ne (pc := 9) X 18 dX9_runs_9 (by decide) (fun c9 => ?_) (fun c9 => ?_)
  · have ke : x = 0 ∨ x = 1 := by
      by_cases y : 0 ≤ x ∧ x ≤ 1
      · exact end_iff.mp y
      · rw [if_neg y] at c9; exact absurd rfl c9
    obtain ⟨e, he, rfl⟩ := eq01 ke
    have re := (rm2.1 e he).1
    have ru := (rm2.1 e he).2
    have hx := (w.1 e he).1.1.1
    have hWl : (eW (zE s e)).length ≤ 200 := (w.1 e he).1.2.2.1.1
    have hWp : ∀ o ∈ eW (zE s e), o.1 ≠ 0 ∧ o.2.1 < 2 ^ 28 := fun o ho => ⟨h0 e he o ho, ((w.1 e he).1.2.2.1.2 o ho).2.1⟩
    refine V_iconst (pc := 18) (v := 0) X dX9_runs_18 (by decide) ?_
    show V _ _ _ _ _ _ (Value.int (nI 0) :: _)
    refine V_istore_n (pc := 19) X [(2, .int _), (0, .ref _), (1, .int _)] dX9_runs_19 rfl (by decide) rfl ?_
    refine V_iconst (pc := 20) (v := 0) X dX9_runs_20 (by decide) ?_
    show V _ _ _ _ _ _ (Value.int (nI 0) :: _)
    refine V_istore_n (pc := 21) X [(3, .int _), (2, .int _), (0, .ref _), (1, .int _)] dX9_runs_21 rfl (by decide) rfl ?_
    have key : ∀ (n k : Nat), (eW (zE s e)).length - k < n → k ≤ (eW (zE s e)).length → ∀ c : Nat, crn (eW (zE s e)) = c + crn ((eW (zE s e)).drop k) → c ≤ k → V E Γ 0 h2 22 [(3, .int (nI k)), (2, .int (nI c)), (0, .ref q), (1, .int (nI e))] [] := by
      intro n
      induction n with
      | zero => exact fun k hn => absurd hn (Nat.not_lt_zero _)
      | succ n ih =>
        intro k hn hk c r1 r2
        refine V_iload_n (pc := 22) X 0 dX9_runs_22 rfl ?_
        refine V_aload_n (pc := 23) X 2 dX9_runs_23 rfl ?_
        refine V_get (pc := 24) X fl_X9_40 dX9_runs_24 mp2.k (mp2.f 911) ?_
        refine V_iload_n (pc := 27) X 3 dX9_runs_27 rfl ?_
        refine M_ald (pc := 28) X mp2 ⟨by unfold isA; decide, by decide⟩ (by show _ < 2; omega) dX9_runs_28 ?_
        rw [re.2.2.1]
        refine V_icmp_ge (pc := 29) X 47 dX9_runs_29 (by decide) (fun c29 => ?_) (fun c29 => ?_)
        · have hie : ¬ k < (eW (zE s e)).length := fun y => nI_ge y (by omega) c29
          refine V_iload_n (pc := 47) X 1 dX9_runs_47 rfl ?_
          refine V_iret (pc := 48) X Q rfl rfl dX9_runs_48 ?_
          rw [List.drop_eq_nil_of_le (by omega)] at r1
          exact Or.inl ⟨e, he, rfl, by rw [r1]; rfl, _, mp2, gm2, rm2, fu_s⟩
        · have hlt : k < (eW (zE s e)).length := by
            rcases Nat.lt_or_ge k (eW (zE s e)).length with y | y
            · exact y
            · exact absurd (nI_le y (by omega)) c29
          have hne : (eW (zE s e)).drop k ≠ [] := fun u => by have := congrArg List.length u; rw [List.length_drop] at this; simp only [List.length_nil] at this; omega
          have rp := rln_pos hne
          have rl := rln_le ((eW (zE s e)).drop k)
          rw [List.length_drop] at rl
          have rs := crn_step hne
          rw [List.drop_drop] at rs
          refine V_inc1 (pc := 32) X 1 [(2, .int _), (3, .int _), (0, .ref _), (1, .int _)] dX9_runs_32 rfl (by decide) rfl ?_
          rw [nI_1]
          refine V_iload_n (pc := 35) X 1 dX9_runs_35 rfl ?_
          refine V_aload_n (pc := 36) X 2 dX9_runs_36 rfl ?_
          refine V_iload_n (pc := 37) X 3 dX9_runs_37 rfl ?_
          refine V_iload_n (pc := 38) X 1 dX9_runs_38 rfl ?_
          refine V_callV (pc := 39) X clk9 (by decide) mp2.k _ (m_run mp2 he re.2.2.2.1 re.2.2.1 hWl hlt hWp) cw_X9_180 (Q.room (by decide) (by decide)) rfl (Nat.le_of_ble_eq_true rfl) rfl (by omega) dX9_runs_39 (fun _ _ z => z.elim) ?_
          rintro v39 h39 ⟨rfl, e39⟩
          rw [e39]
          simp only [Option.toList_some, List.cons_append, List.nil_append]
          refine V_iadd (pc := 42) X dX9_runs_42 ?_
          rw [nI_add]
          refine V_istore_n (pc := 43) X [(3, .int _), (2, .int _), (0, .ref _), (1, .int _)] dX9_runs_43 rfl (by decide) rfl ?_
          refine V_goto (pc := 44) X 22 dX9_runs_44 (by decide) ?_
          refine ih (k + rln ((eW (zE s e)).drop k)) (by omega) (by omega) (c + 1) (by rw [r1, rs]; omega) (by omega)
    exact key ((eW (zE s e)).length + 1) 0 (by omega) (Nat.zero_le _) 0 (by rw [Nat.zero_add]; rfl) (Nat.le_refl _)
  · have ke : ¬ (x = 0 ∨ x = 1) := fun y => by rw [if_pos (end_iff.mpr y)] at c9; exact absurd c9 (by decide)
    refine V_aload_n (pc := 12) X 0 dX9_runs_12 rfl ?_
    refine V_iconst (pc := 13) (v := 1) X dX9_runs_13 (by decide) ?_
    show V _ _ _ _ _ _ (Value.int (nI 1) :: _)
    refine V_callV (pc := 14) X clk9 (by decide) mp2.k _ (m_fails mp2 (c := nI 1)) cw_X9_144 (Q.room (by decide) (by decide)) rfl (Nat.le_of_ble_eq_true rfl) rfl (by omega) dX9_runs_14 (fun _ _ z => z.elim) ?_
    rintro v23 h23 ⟨rfl, mp9, fm9⟩
    simp only [Option.toList_some, List.cons_append, List.nil_append]
    refine V_iret (pc := 17) X Q rfl rfl dX9_runs_17 ?_
    first
    | exact Or.inl ⟨e, he, rfl, rfl, _, mp2, gm2, rm2, fu_s⟩
    | exact Or.inr ⟨ke, ⟨_, rfl⟩, _, mp9, gm2.seq fm9, rm2.th w hH (nI 1), fu_s⟩
