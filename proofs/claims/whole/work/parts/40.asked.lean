/-! WHAT CAN BE ASKED -/
theorem chr_ok {a : Nat} (h : a < 127) : narrow .char (.int (nI a)) = .int (nI a) := (pk_charN (by omega)).1
/-- texts of ends and their letters -/
theorem RC.tx {h : AH} {q : Nat} {G : GQ} {s : SQ} (z : RC h q G s) {e : Nat} (he : e ≤ 1) : ∃ c, TX G.1 h (G.2.1 e 1) (G.2.1 e 7) (eX (zE s e)) c ∧ c ≤ 301 := (z.e he).2.1
theorem RC.lt {h : AH} {q : Nat} {G : GQ} {s : SQ} (z : RC h q G s) (w : WS' s) {e : Nat} (he : e ≤ 1) : ∀ x ∈ eX (zE s e), LT G.1 (zT s) h x := fun x hx => (z.2.2.2.2.2.2.1 x ((w.1 e he).1.1.2 x hx)).1
theorem RC.lc {h : AH} {q : Nat} {G : GQ} {s : SQ} (z : RC h q G s) (w : WS' s) : ∀ x ∈ zC s, LT G.1 (zT s) h x := fun x hx => (z.2.2.2.2.2.2.1 x (w.2.1.2 x hx)).1
theorem x_length {E : EV} {h : AH} {q : Nat} {G : GQ} {s : SQ} (z : RC h q G s) (w : WS' s) {x : Int32} : Ct E yX8_length cX8_length 2 (some .int) 7 3 [.ref q, .int x] h (fun v h1 => (∃ e : Nat, e ≤ 1 ∧ x = nI e ∧ v = some (.int (nI ((eX (zE s e)).length)))) ∧ h1 = h) (fun N h1 => N = "java/lang/IndexOutOfBoundsException" ∧ ¬ (x = 0 ∨ x = 1) ∧ h1 = h) := by
  refine Ct_of RX8 (by decide +kernel) rfl (Nat.le_of_ble_eq_true rfl) (fun Γ X nt Q hin => ?_)
  refine V_aload_n (pc := 0) X 0 dX8_length_0 rfl ?_
  refine V_iload_n (pc := 1) X 1 dX8_length_1 rfl ?_
  refine V_callV (pc := 2) X clk8 (by decide) z.k _ (c_endN z) cw_X8_46 (Q.room (by decide) (by decide)) rfl (Nat.le_of_ble_eq_true rfl) rfl (by omega) dX8_length_2 (fun N h9 y => VX_out X Q nt y) ?_
  rintro v2 h2 ⟨⟨e, he, rfl, rfl⟩, e2⟩
  rw [e2]
  simp only [Option.toList_some, List.cons_append, List.nil_append]
  obtain ⟨c, hx, hc⟩ := z.tx he
  refine V_get (pc := 5) X fl_X8_50 dX8_length_5 (z.es he).1 ((z.es he).f 1) ?_
  refine V_callV (pc := 8) X clk7 (by decide) hx.1 _ (c_tsize hx) cw_X8_76 (Q.room (by decide) (by decide)) rfl (Nat.le_of_ble_eq_true rfl) rfl (by omega) dX8_length_8 (fun _ _ z => z.elim) ?_
  rintro v8 h8 ⟨rfl, e8⟩
  rw [e8]
  simp only [Option.toList_some, List.cons_append, List.nil_append]
  refine V_iret (pc := 11) X Q rfl rfl dX8_length_11 ?_
  exact ⟨⟨e, he, rfl, rfl⟩, rfl⟩
theorem x_cursor {E : EV} {h : AH} {q : Nat} {G : GQ} {s : SQ} (z : RC h q G s) (w : WS' s) {x : Int32} : Ct E yX8_cursor cX8_cursor 2 (some .int) 7 3 [.ref q, .int x] h (fun v h1 => (∃ e : Nat, e ≤ 1 ∧ x = nI e ∧ v = some (.int (nI (eC (zE s e))))) ∧ h1 = h) (fun N h1 => N = "java/lang/IndexOutOfBoundsException" ∧ ¬ (x = 0 ∨ x = 1) ∧ h1 = h) := by
  refine Ct_of RX8 (by decide +kernel) rfl (Nat.le_of_ble_eq_true rfl) (fun Γ X nt Q hin => ?_)
  refine V_aload_n (pc := 0) X 0 dX8_cursor_0 rfl ?_
  refine V_iload_n (pc := 1) X 1 dX8_cursor_1 rfl ?_
  refine V_callV (pc := 2) X clk8 (by decide) z.k _ (c_endN z) cw_X8_46 (Q.room (by decide) (by decide)) rfl (Nat.le_of_ble_eq_true rfl) rfl (by omega) dX8_cursor_2 (fun N h9 y => VX_out X Q nt y) ?_
  rintro v2 h2 ⟨⟨e, he, rfl, rfl⟩, e2⟩
  rw [e2]
  simp only [Option.toList_some, List.cons_append, List.nil_append]
  refine V_get (pc := 5) X fl_X8_90 dX8_cursor_5 (z.es he).1 (show _ = Value.int (nI (eC (zE s e))) from (z.e he).2.2.2.2.1) ?_
  refine V_iret (pc := 8) X Q rfl rfl dX8_cursor_8 ?_
  exact ⟨⟨e, he, rfl, rfl⟩, rfl⟩
theorem x_mark {E : EV} {h : AH} {q : Nat} {G : GQ} {s : SQ} (z : RC h q G s) (w : WS' s) {x : Int32} : Ct E yX8_mark cX8_mark 2 (some .int) 7 3 [.ref q, .int x] h (fun v h1 => (∃ e : Nat, e ≤ 1 ∧ x = nI e ∧ v = some (.int (nI (eMk (zE s e))))) ∧ h1 = h) (fun N h1 => N = "java/lang/IndexOutOfBoundsException" ∧ ¬ (x = 0 ∨ x = 1) ∧ h1 = h) := by
  refine Ct_of RX8 (by decide +kernel) rfl (Nat.le_of_ble_eq_true rfl) (fun Γ X nt Q hin => ?_)
  refine V_aload_n (pc := 0) X 0 dX8_mark_0 rfl ?_
  refine V_iload_n (pc := 1) X 1 dX8_mark_1 rfl ?_
  refine V_callV (pc := 2) X clk8 (by decide) z.k _ (c_endN z) cw_X8_46 (Q.room (by decide) (by decide)) rfl (Nat.le_of_ble_eq_true rfl) rfl (by omega) dX8_mark_2 (fun N h9 y => VX_out X Q nt y) ?_
  rintro v2 h2 ⟨⟨e, he, rfl, rfl⟩, e2⟩
  rw [e2]
  simp only [Option.toList_some, List.cons_append, List.nil_append]
  refine V_get (pc := 5) X fl_X8_193 dX8_mark_5 (z.es he).1 (show _ = Value.int (nI (eMk (zE s e))) from (z.e he).2.2.2.2.2.1) ?_
  refine V_iret (pc := 8) X Q rfl rfl dX8_mark_8 ?_
  exact ⟨⟨e, he, rfl, rfl⟩, rfl⟩
theorem x_revision {E : EV} {h : AH} {q : Nat} {G : GQ} {s : SQ} (z : RC h q G s) (w : WS' s) {x : Int32} : Ct E yX8_revision cX8_revision 2 (some .int) 7 3 [.ref q, .int x] h (fun v h1 => (∃ e : Nat, e ≤ 1 ∧ x = nI e ∧ v = some (.int (nI (eR (zE s e))))) ∧ h1 = h) (fun N h1 => N = "java/lang/IndexOutOfBoundsException" ∧ ¬ (x = 0 ∨ x = 1) ∧ h1 = h) := by
  refine Ct_of RX8 (by decide +kernel) rfl (Nat.le_of_ble_eq_true rfl) (fun Γ X nt Q hin => ?_)
  refine V_aload_n (pc := 0) X 0 dX8_revision_0 rfl ?_
  refine V_iload_n (pc := 1) X 1 dX8_revision_1 rfl ?_
  refine V_callV (pc := 2) X clk8 (by decide) z.k _ (c_endN z) cw_X8_46 (Q.room (by decide) (by decide)) rfl (Nat.le_of_ble_eq_true rfl) rfl (by omega) dX8_revision_2 (fun N h9 y => VX_out X Q nt y) ?_
  rintro v2 h2 ⟨⟨e, he, rfl, rfl⟩, e2⟩
  rw [e2]
  simp only [Option.toList_some, List.cons_append, List.nil_append]
  refine V_get (pc := 5) X fl_X8_196 dX8_revision_5 (z.es he).1 (show _ = Value.int (nI (eR (zE s e))) from (z.e he).2.2.2.2.2.2) ?_
  refine V_iret (pc := 8) X Q rfl rfl dX8_revision_8 ?_
  exact ⟨⟨e, he, rfl, rfl⟩, rfl⟩
theorem x_sent {E : EV} {h : AH} {q : Nat} {G : GQ} {s : SQ} (z : RC h q G s) (w : WS' s) {x : Int32} : Ct E yX8_sent cX8_sent 2 (some .int) 7 3 [.ref q, .int x] h (fun v h1 => (∃ e : Nat, e ≤ 1 ∧ x = nI e ∧ v = some (.int (nI ((eS (zE s e)).length)))) ∧ h1 = h) (fun N h1 => N = "java/lang/IndexOutOfBoundsException" ∧ ¬ (x = 0 ∨ x = 1) ∧ h1 = h) := by
  refine Ct_of RX8 (by decide +kernel) rfl (Nat.le_of_ble_eq_true rfl) (fun Γ X nt Q hin => ?_)
  refine V_aload_n (pc := 0) X 0 dX8_sent_0 rfl ?_
  refine V_iload_n (pc := 1) X 1 dX8_sent_1 rfl ?_
  refine V_callV (pc := 2) X clk8 (by decide) z.k _ (c_endN z) cw_X8_46 (Q.room (by decide) (by decide)) rfl (Nat.le_of_ble_eq_true rfl) rfl (by omega) dX8_sent_2 (fun N h9 y => VX_out X Q nt y) ?_
  rintro v2 h2 ⟨⟨e, he, rfl, rfl⟩, e2⟩
  rw [e2]
  simp only [Option.toList_some, List.cons_append, List.nil_append]
  obtain ⟨R2, R3, o2, o3, nd⟩ := (z.e he).2.2.1
  have hlen : o2.2.1.1 = o2.2.1.1 := rfl
  refine V_get (pc := 5) X fl_X8_199 dX8_sent_5 (z.es he).1 ((z.es he).f 2) ?_
  refine V_callL (pc := 8) X (Or.inl ((z.es he).l 2)) _ (c_size ((z.es he).l 2)) cw_X8_102 (Q.room (by decide) (by decide)) rfl (Nat.le_of_ble_eq_true rfl) rfl (by omega) dX8_sent_8 (fun _ _ z => z.elim) ?_
  rintro v8 h8 ⟨rfl, e8⟩
  rw [e8, o2.1, o2.2.1.1]
  simp only [Option.toList_some, List.cons_append, List.nil_append]
  refine V_iret (pc := 11) X Q rfl rfl dX8_sent_11 ?_
  exact ⟨⟨e, he, rfl, rfl⟩, rfl⟩
theorem x_waiting {E : EV} {h : AH} {q : Nat} {G : GQ} {s : SQ} (z : RC h q G s) (w : WS' s) {x : Int32} : Ct E yX8_waiting cX8_waiting 2 (some .int) 7 3 [.ref q, .int x] h (fun v h1 => (∃ e : Nat, e ≤ 1 ∧ x = nI e ∧ v = some (.int (nI ((eW (zE s e)).length)))) ∧ h1 = h) (fun N h1 => N = "java/lang/IndexOutOfBoundsException" ∧ ¬ (x = 0 ∨ x = 1) ∧ h1 = h) := by
  refine Ct_of RX8 (by decide +kernel) rfl (Nat.le_of_ble_eq_true rfl) (fun Γ X nt Q hin => ?_)
  refine V_aload_n (pc := 0) X 0 dX8_waiting_0 rfl ?_
  refine V_iload_n (pc := 1) X 1 dX8_waiting_1 rfl ?_
  refine V_callV (pc := 2) X clk8 (by decide) z.k _ (c_endN z) cw_X8_46 (Q.room (by decide) (by decide)) rfl (Nat.le_of_ble_eq_true rfl) rfl (by omega) dX8_waiting_2 (fun N h9 y => VX_out X Q nt y) ?_
  rintro v2 h2 ⟨⟨e, he, rfl, rfl⟩, e2⟩
  rw [e2]
  simp only [Option.toList_some, List.cons_append, List.nil_append]
  obtain ⟨R2, R3, o2, o3, nd⟩ := (z.e he).2.2.1
  have hlen : o3.2.1.1 = o3.2.1.1 := rfl
  refine V_get (pc := 5) X fl_X8_202 dX8_waiting_5 (z.es he).1 ((z.es he).f 3) ?_
  refine V_callL (pc := 8) X (Or.inl ((z.es he).l 3)) _ (c_size ((z.es he).l 3)) cw_X8_102 (Q.room (by decide) (by decide)) rfl (Nat.le_of_ble_eq_true rfl) rfl (by omega) dX8_waiting_8 (fun _ _ z => z.elim) ?_
  rintro v8 h8 ⟨rfl, e8⟩
  rw [e8, o3.1, o3.2.1.1]
  simp only [Option.toList_some, List.cons_append, List.nil_append]
  refine V_iret (pc := 11) X Q rfl rfl dX8_waiting_11 ?_
  exact ⟨⟨e, he, rfl, rfl⟩, rfl⟩
theorem x_runs {E : EV} {h : AH} {q : Nat} {G : GQ} {s : SQ} (z : RC h q G s) (w : WS' s) {x : Int32} : Ct E yX8_runs cX8_runs 2 (some .int) 7 3 [.ref q, .int x] h (fun v h1 => (∃ e : Nat, e ≤ 1 ∧ x = nI e ∧ v = some (.int (nI (crn (eW (zE s e)))))) ∧ h1 = h) (fun N h1 => N = "java/lang/IndexOutOfBoundsException" ∧ ¬ (x = 0 ∨ x = 1) ∧ h1 = h) := by
  refine Ct_of RX8 (by decide +kernel) rfl (Nat.le_of_ble_eq_true rfl) (fun Γ X nt Q hin => ?_)
  refine V_aload_n (pc := 0) X 0 dX8_runs_0 rfl ?_
  refine V_iload_n (pc := 1) X 1 dX8_runs_1 rfl ?_
  refine V_callV (pc := 2) X clk8 (by decide) z.k _ (c_endN z) cw_X8_46 (Q.room (by decide) (by decide)) rfl (Nat.le_of_ble_eq_true rfl) rfl (by omega) dX8_runs_2 (fun N h9 y => VX_out X Q nt y) ?_
  rintro v2 h2 ⟨⟨e, he, rfl, rfl⟩, e2⟩
  rw [e2]
  simp only [Option.toList_some, List.cons_append, List.nil_append]
  obtain ⟨R2, R3, o2, o3, nd⟩ := (z.e he).2.2.1
  have hRl := o3.2.1.1
  have hWl : (zE s e).2.2.1.length ≤ 200 := (w.1 e he).1.2.2.1.1
  refine V_callV (pc := 5) X clk2 (by decide) (z.es he).1 _ (c_runs (z.es he) o3.1 o3.2.1 (fun o ho => by have := (w.1 e he).1.2.2.1.2 o ho; unfold wO at this; omega) (by omega)) cw_X8_205 (Q.room (by decide) (by decide)) rfl (Nat.le_of_ble_eq_true rfl) rfl (by omega) dX8_runs_5 (fun _ _ z => z.elim) ?_
  rintro v5 h5 ⟨rfl, e5⟩
  rw [e5]
  simp only [Option.toList_some, List.cons_append, List.nil_append]
  refine V_iret (pc := 8) X Q rfl rfl dX8_runs_8 ?_
  exact ⟨⟨e, he, rfl, rfl⟩, rfl⟩
theorem x_up {E : EV} {h : AH} {q : Nat} {G : GQ} {s : SQ} (z : RC h q G s) (w : WS' s) {x : Int32} : Ct E yX8_up cX8_up 2 (some .int) 7 3 [.ref q, .int x] h (fun v h1 => (∃ e : Nat, e ≤ 1 ∧ x = nI e ∧ v = some (.int (nI ((zU s e).length)))) ∧ h1 = h) (fun N h1 => N = "java/lang/IndexOutOfBoundsException" ∧ ¬ (x = 0 ∨ x = 1) ∧ h1 = h) := by
  refine Ct_of RX8 (by decide +kernel) rfl (Nat.le_of_ble_eq_true rfl) (fun Γ X nt Q hin => ?_)
  refine V_aload_n (pc := 0) X 0 dX8_up_0 rfl ?_
  refine V_iload_n (pc := 1) X 1 dX8_up_1 rfl ?_
  refine V_callV (pc := 2) X clk8 (by decide) z.k _ (c_endN z) cw_X8_46 (Q.room (by decide) (by decide)) rfl (Nat.le_of_ble_eq_true rfl) rfl (by omega) dX8_up_2 (fun N h9 y => VX_out X Q nt y) ?_
  rintro v2 h2 ⟨⟨e, he, rfl, rfl⟩, e2⟩
  rw [e2]
  simp only [Option.toList_some, List.cons_append, List.nil_append]
  obtain ⟨Hs, Us, hL, hH, hu, hn⟩ := z.2.2.2.1
  obtain ⟨u1, u2, u3, u4, u5⟩ := hu e he
  refine V_get (pc := 5) X fl_X8_129 dX8_up_5 (z.es he).1 ((z.es he).f 4) ?_
  refine V_callL (pc := 8) X (Or.inl ((z.es he).l 4)) _ (c_size ((z.es he).l 4)) cw_X8_102 (Q.room (by decide) (by decide)) rfl (Nat.le_of_ble_eq_true rfl) rfl (by omega) dX8_up_8 (fun _ _ z => z.elim) ?_
  rintro v8 h8 ⟨rfl, e8⟩
  rw [e8, u2, u1.1]
  simp only [Option.toList_some, List.cons_append, List.nil_append]
  refine V_iret (pc := 11) X Q rfl rfl dX8_up_11 ?_
  exact ⟨⟨e, he, rfl, rfl⟩, rfl⟩
theorem x_down {E : EV} {h : AH} {q : Nat} {G : GQ} {s : SQ} (z : RC h q G s) (w : WS' s) {x : Int32} : Ct E yX8_down cX8_down 2 (some .int) 7 3 [.ref q, .int x] h (fun v h1 => (∃ e : Nat, e ≤ 1 ∧ x = nI e ∧ v = some (.int (nI ((zH s).length - eR (zE s e))))) ∧ h1 = h) (fun N h1 => N = "java/lang/IndexOutOfBoundsException" ∧ ¬ (x = 0 ∨ x = 1) ∧ h1 = h) := by
  refine Ct_of RX8 (by decide +kernel) rfl (Nat.le_of_ble_eq_true rfl) (fun Γ X nt Q hin => ?_)
  refine V_aload_n (pc := 0) X 0 dX8_down_0 rfl ?_
  refine V_iload_n (pc := 1) X 1 dX8_down_1 rfl ?_
  refine V_callV (pc := 2) X clk8 (by decide) z.k _ (c_endN z) cw_X8_46 (Q.room (by decide) (by decide)) rfl (Nat.le_of_ble_eq_true rfl) rfl (by omega) dX8_down_2 (fun N h9 y => VX_out X Q nt y) ?_
  rintro v2 h2 ⟨⟨e, he, rfl, rfl⟩, e2⟩
  rw [e2]
  simp only [Option.toList_some, List.cons_append, List.nil_append]
  obtain ⟨Hs, Us, hL, hH, hu, hn⟩ := z.2.2.2.1
  obtain ⟨u1, u2, u3, u4, u5⟩ := hu e he
  refine V_get (pc := 5) X fl_X8_147 dX8_down_5 (z.es he).1 ((z.es he).f 5) ?_
  refine V_callL (pc := 8) X (Or.inl ((z.es he).l 5)) _ (c_size ((z.es he).l 5)) cw_X8_102 (Q.room (by decide) (by decide)) rfl (Nat.le_of_ble_eq_true rfl) rfl (by omega) dX8_down_8 (fun _ _ z => z.elim) ?_
  rintro v8 h8 ⟨rfl, e8⟩
  rw [e8, u4, List.length_drop, hH.1]
  simp only [Option.toList_some, List.cons_append, List.nil_append]
  refine V_iret (pc := 11) X Q rfl rfl dX8_down_11 ?_
  exact ⟨⟨e, he, rfl, rfl⟩, rfl⟩
theorem x_kept {E : EV} {h : AH} {q : Nat} {G : GQ} {s : SQ} (z : RC h q G s) (w : WS' s) {x : Int32} : Ct E yX8_kept cX8_kept 2 (some .int) 7 3 [.ref q, .int x] h (fun v h1 => (∃ e : Nat, e ≤ 1 ∧ x = nI e ∧ v = some (.int (nI ((eK (zE s e)).length)))) ∧ h1 = h) (fun N h1 => N = "java/lang/IndexOutOfBoundsException" ∧ ¬ (x = 0 ∨ x = 1) ∧ h1 = h) := by
  refine Ct_of RX8 (by decide +kernel) rfl (Nat.le_of_ble_eq_true rfl) (fun Γ X nt Q hin => ?_)
  refine V_aload_n (pc := 0) X 0 dX8_kept_0 rfl ?_
  refine V_iload_n (pc := 1) X 1 dX8_kept_1 rfl ?_
  refine V_callV (pc := 2) X clk8 (by decide) z.k _ (c_endN z) cw_X8_46 (Q.room (by decide) (by decide)) rfl (Nat.le_of_ble_eq_true rfl) rfl (by omega) dX8_kept_2 (fun N h9 y => VX_out X Q nt y) ?_
  rintro v2 h2 ⟨⟨e, he, rfl, rfl⟩, e2⟩
  rw [e2]
  simp only [Option.toList_some, List.cons_append, List.nil_append]
  obtain ⟨R, q1, q2, q3, q4, q5⟩ := (z.e he).2.2.2.1
  refine V_get (pc := 5) X fl_X8_98 dX8_kept_5 (z.es he).1 ((z.es he).f 6) ?_
  refine V_callL (pc := 8) X (Or.inl ((z.es he).l 6)) _ (c_size ((z.es he).l 6)) cw_X8_102 (Q.room (by decide) (by decide)) rfl (Nat.le_of_ble_eq_true rfl) rfl (by omega) dX8_kept_8 (fun _ _ z => z.elim) ?_
  rintro v8 h8 ⟨rfl, e8⟩
  rw [e8, q1, q2.1]
  simp only [Option.toList_some, List.cons_append, List.nil_append]
  refine V_iret (pc := 11) X Q rfl rfl dX8_kept_11 ?_
  exact ⟨⟨e, he, rfl, rfl⟩, rfl⟩
theorem x_textNumber {E : EV} {h : AH} {q : Nat} {G : GQ} {s : SQ} (z : RC h q G s) (w : WS' s) {x : Int32} : Ct E yX8_textNumber cX8_textNumber 2 (some .long) 7 3 [.ref q, .int x] h (fun v h1 => (∃ e : Nat, e ≤ 1 ∧ x = nI e ∧ v = some (.long (num (zT s) (eX (zE s e)) 7))) ∧ h1 = h) (fun N h1 => N = "java/lang/IndexOutOfBoundsException" ∧ ¬ (x = 0 ∨ x = 1) ∧ h1 = h) := by
  refine Ct_of RX8 (by decide +kernel) rfl (Nat.le_of_ble_eq_true rfl) (fun Γ X nt Q hin => ?_)
  refine V_aload_n (pc := 0) X 0 dX8_textNumber_0 rfl ?_
  refine V_iload_n (pc := 1) X 1 dX8_textNumber_1 rfl ?_
  refine V_callV (pc := 2) X clk8 (by decide) z.k _ (c_endN z) cw_X8_46 (Q.room (by decide) (by decide)) rfl (Nat.le_of_ble_eq_true rfl) rfl (by omega) dX8_textNumber_2 (fun N h9 y => VX_out X Q nt y) ?_
  rintro v2 h2 ⟨⟨e, he, rfl, rfl⟩, e2⟩
  rw [e2]
  simp only [Option.toList_some, List.cons_append, List.nil_append]
  obtain ⟨c, hx, hc⟩ := z.tx he
  have hl : (eX (zE s e)).length ≤ 200 := (w.1 e he).1.1.1
  refine V_get (pc := 5) X fl_X8_50 dX8_textNumber_5 (z.es he).1 ((z.es he).f 1) ?_
  refine V_callV (pc := 8) X clk7 (by decide) hx.1 _ (c_number hx (z.lt w he) (by omega)) cw_X8_251 (Q.room (by decide) (by decide)) rfl (Nat.le_of_ble_eq_true rfl) rfl (by omega) dX8_textNumber_8 (fun _ _ z => z.elim) ?_
  rintro v8 h8 ⟨rfl, e8⟩
  rw [e8]
  simp only [Option.toList_some, List.cons_append, List.nil_append]
  refine V_lret (pc := 11) X Q rfl dX8_textNumber_11 ?_
  exact ⟨⟨e, he, rfl, rfl⟩, rfl⟩
theorem x_charAt {E : EV} {h : AH} {q : Nat} {G : GQ} {s : SQ} (z : RC h q G s) (w : WS' s) {x p : Int32} : Ct E yX8_charAt cX8_charAt 3 (some .char) 7 6 [.ref q, .int x, .int p] h (fun v h1 => (∃ (e i y : Nat), e ≤ 1 ∧ x = nI e ∧ p = nI i ∧ (eX (zE s e))[i]? = some y ∧ v = some (.int (nI (zT s y).1))) ∧ h1 = h) (fun N h1 => ((N = "java/lang/IndexOutOfBoundsException" ∧ ¬ (x = 0 ∨ x = 1)) ∨ (N = "java/lang/IllegalArgumentException" ∧ ∃ e : Nat, e ≤ 1 ∧ x = nI e ∧ ¬ (¬ p < 0 ∧ p < nI (eX (zE s e)).length))) ∧ h1 = h) := by
  refine Ct_of RX8 (by decide +kernel) rfl (Nat.le_of_ble_eq_true rfl) (fun Γ X nt Q hin => ?_)
  refine V_aload_n (pc := 0) X 0 dX8_charAt_0 rfl ?_
  refine V_iload_n (pc := 1) X 1 dX8_charAt_1 rfl ?_
  refine V_callV (pc := 2) X clk8 (by decide) z.k _ (c_endN z) cw_X8_46 (Q.room (by decide) (by decide)) rfl (Nat.le_of_ble_eq_true rfl) rfl (by omega) dX8_charAt_2 (fun N h9 y => VX_out X Q nt ⟨Or.inl ⟨y.1, y.2.1⟩, y.2.2⟩) ?_
  rintro v2 h2 ⟨⟨e, he, rfl, rfl⟩, e2⟩
  rw [e2]
  simp only [Option.toList_some, List.cons_append, List.nil_append]
  obtain ⟨c, hx, hc⟩ := z.tx he
  have hl : (eX (zE s e)).length ≤ 200 := (w.1 e he).1.1.1
  refine V_get (pc := 5) X fl_X8_50 dX8_charAt_5 (z.es he).1 ((z.es he).f 1) ?_
  refine V_iload_n (pc := 8) X 2 dX8_charAt_8 rfl ?_
  refine V_callS (pc := 9) X _ (c_letterOf hx (z.lt w he) hl) cw_X8_176 (Q.room (by decide) (by decide)) rfl (Nat.le_of_ble_eq_true rfl) rfl (by omega) dX8_charAt_9 (fun N h9 y => VX_out X Q nt ⟨Or.inr ⟨y.1, e, he, rfl, y.2.1⟩, y.2.2⟩) ?_
  rintro v9 h9 ⟨⟨i, y, rfl, hy, rfl⟩, e9⟩
  rw [e9]
  simp only [Option.toList_some, List.cons_append, List.nil_append]
  have lt := z.lt w he y (List.mem_of_getElem? hy)
  refine V_get (pc := 12) X fl_X8_180 dX8_charAt_12 lt.1 lt.2.1 ?_
  refine V_iret (pc := 15) X Q rfl (chr_ok lt.2.2.2.1) dX8_charAt_15 ?_
  exact ⟨⟨e, i, y, he, rfl, rfl, hy, rfl⟩, rfl⟩
theorem x_ownerAt {E : EV} {h : AH} {q : Nat} {G : GQ} {s : SQ} (z : RC h q G s) (w : WS' s) {x p : Int32} : Ct E yX8_ownerAt cX8_ownerAt 3 (some .int) 7 6 [.ref q, .int x, .int p] h (fun v h1 => (∃ (e i y : Nat), e ≤ 1 ∧ x = nI e ∧ p = nI i ∧ (eX (zE s e))[i]? = some y ∧ v = some (.int (nI (zT s y).2))) ∧ h1 = h) (fun N h1 => ((N = "java/lang/IndexOutOfBoundsException" ∧ ¬ (x = 0 ∨ x = 1)) ∨ (N = "java/lang/IllegalArgumentException" ∧ ∃ e : Nat, e ≤ 1 ∧ x = nI e ∧ ¬ (¬ p < 0 ∧ p < nI (eX (zE s e)).length))) ∧ h1 = h) := by
  refine Ct_of RX8 (by decide +kernel) rfl (Nat.le_of_ble_eq_true rfl) (fun Γ X nt Q hin => ?_)
  refine V_aload_n (pc := 0) X 0 dX8_ownerAt_0 rfl ?_
  refine V_iload_n (pc := 1) X 1 dX8_ownerAt_1 rfl ?_
  refine V_callV (pc := 2) X clk8 (by decide) z.k _ (c_endN z) cw_X8_46 (Q.room (by decide) (by decide)) rfl (Nat.le_of_ble_eq_true rfl) rfl (by omega) dX8_ownerAt_2 (fun N h9 y => VX_out X Q nt ⟨Or.inl ⟨y.1, y.2.1⟩, y.2.2⟩) ?_
  rintro v2 h2 ⟨⟨e, he, rfl, rfl⟩, e2⟩
  rw [e2]
  simp only [Option.toList_some, List.cons_append, List.nil_append]
  obtain ⟨c, hx, hc⟩ := z.tx he
  have hl : (eX (zE s e)).length ≤ 200 := (w.1 e he).1.1.1
  refine V_get (pc := 5) X fl_X8_50 dX8_ownerAt_5 (z.es he).1 ((z.es he).f 1) ?_
  refine V_iload_n (pc := 8) X 2 dX8_ownerAt_8 rfl ?_
  refine V_callS (pc := 9) X _ (c_letterOf hx (z.lt w he) hl) cw_X8_176 (Q.room (by decide) (by decide)) rfl (Nat.le_of_ble_eq_true rfl) rfl (by omega) dX8_ownerAt_9 (fun N h9 y => VX_out X Q nt ⟨Or.inr ⟨y.1, e, he, rfl, y.2.1⟩, y.2.2⟩) ?_
  rintro v9 h9 ⟨⟨i, y, rfl, hy, rfl⟩, e9⟩
  rw [e9]
  simp only [Option.toList_some, List.cons_append, List.nil_append]
  have lt := z.lt w he y (List.mem_of_getElem? hy)
  refine V_get (pc := 12) X fl_X8_186 dX8_ownerAt_12 lt.1 lt.2.2.1 ?_
  refine V_iret (pc := 15) X Q rfl rfl dX8_ownerAt_15 ?_
  exact ⟨⟨e, i, y, he, rfl, rfl, hy, rfl⟩, rfl⟩
theorem x_centreLength {E : EV} {h : AH} {q : Nat} {G : GQ} {s : SQ} (z : RC h q G s) (w : WS' s)  : Ct E yX8_centreLength cX8_centreLength 1 (some .int) 4 0 [.ref q] h (fun v h1 => v = some (.int (nI (zC s).length)) ∧ h1 = h) noX := by
  refine Ct_of RX8 (by decide +kernel) rfl (Nat.le_of_ble_eq_true rfl) (fun Γ X nt Q hin => ?_)
  have cE := z.2.2.1
  obtain ⟨c, hx, hc⟩ := cE.2.2.2.1
  refine V_aload_n (pc := 0) X 0 dX8_centreLength_0 rfl ?_
  refine V_get (pc := 1) X fl_X8_24 dX8_centreLength_1 z.k z.1.2.2.2.1 ?_
  refine V_get (pc := 4) X fl_X8_192 dX8_centreLength_4 cE.1 cE.2.1 ?_
  refine V_callV (pc := 7) X clk7 (by decide) hx.1 _ (c_tsize hx) cw_X8_76 (Q.room (by decide) (by decide)) rfl (Nat.le_of_ble_eq_true rfl) rfl (by omega) dX8_centreLength_7 (fun _ _ z => z.elim) ?_
  rintro v8 h8 ⟨rfl, e8⟩
  rw [e8]
  simp only [Option.toList_some, List.cons_append, List.nil_append]
  refine V_iret (pc := 10) X Q rfl rfl dX8_centreLength_10 ?_
  exact ⟨rfl, rfl⟩
theorem x_centreRevision {E : EV} {h : AH} {q : Nat} {G : GQ} {s : SQ} (z : RC h q G s) (w : WS' s)  : Ct E yX8_centreRevision cX8_centreRevision 1 (some .int) 4 0 [.ref q] h (fun v h1 => v = some (.int (nI (zH s).length)) ∧ h1 = h) noX := by
  refine Ct_of RX8 (by decide +kernel) rfl (Nat.le_of_ble_eq_true rfl) (fun Γ X nt Q hin => ?_)
  have cE := z.2.2.1
  obtain ⟨c, hx, hc⟩ := cE.2.2.2.1
  obtain ⟨Hs, Us, hL, hH, hu, hn⟩ := z.2.2.2.1
  refine V_aload_n (pc := 0) X 0 dX8_centreRevision_0 rfl ?_
  refine V_get (pc := 1) X fl_X8_24 dX8_centreRevision_1 z.k z.1.2.2.2.1 ?_
  refine V_get (pc := 4) X fl_X8_208 dX8_centreRevision_4 cE.1 cE.2.2.1 ?_
  refine V_callL (pc := 7) X (Or.inl cE.2.2.2.2.1) _ (c_size cE.2.2.2.2.1) cw_X8_102 (Q.room (by decide) (by decide)) rfl (Nat.le_of_ble_eq_true rfl) rfl (by omega) dX8_centreRevision_7 (fun _ _ z => z.elim) ?_
  rintro v8 h8 ⟨rfl, e8⟩
  rw [e8, hL, hH.1]
  simp only [Option.toList_some, List.cons_append, List.nil_append]
  refine V_iret (pc := 10) X Q rfl rfl dX8_centreRevision_10 ?_
  exact ⟨rfl, rfl⟩
theorem x_centreChar {E : EV} {h : AH} {q : Nat} {G : GQ} {s : SQ} (z : RC h q G s) (w : WS' s) {p : Int32} : Ct E yX8_centreChar cX8_centreChar 2 (some .char) 7 3 [.ref q, .int p] h (fun v h1 => (∃ (i y : Nat), p = nI i ∧ (zC s)[i]? = some y ∧ v = some (.int (nI (zT s y).1))) ∧ h1 = h) (fun N h1 => N = "java/lang/IllegalArgumentException" ∧ ¬ (¬ p < 0 ∧ p < nI (zC s).length) ∧ h1 = h) := by
  refine Ct_of RX8 (by decide +kernel) rfl (Nat.le_of_ble_eq_true rfl) (fun Γ X nt Q hin => ?_)
  have cE := z.2.2.1
  obtain ⟨c, hx, hc⟩ := cE.2.2.2.1
  refine V_aload_n (pc := 0) X 0 dX8_centreChar_0 rfl ?_
  refine V_get (pc := 1) X fl_X8_24 dX8_centreChar_1 z.k z.1.2.2.2.1 ?_
  refine V_get (pc := 4) X fl_X8_192 dX8_centreChar_4 cE.1 cE.2.1 ?_
  refine V_iload_n (pc := 7) X 1 dX8_centreChar_7 rfl ?_
  refine V_callS (pc := 8) X _ (c_letterOf hx (z.lc w) w.2.1.1) cw_X8_176 (Q.room (by decide) (by decide)) rfl (Nat.le_of_ble_eq_true rfl) rfl (by omega) dX8_centreChar_8 (fun N h9 y => VX_out X Q nt y) ?_
  rintro v9 h9 ⟨⟨i, y, rfl, hy, rfl⟩, e9⟩
  rw [e9]
  simp only [Option.toList_some, List.cons_append, List.nil_append]
  have lt := z.lc w y (List.mem_of_getElem? hy)
  refine V_get (pc := 11) X fl_X8_180 dX8_centreChar_11 lt.1 lt.2.1 ?_
  refine V_iret (pc := 14) X Q rfl (chr_ok lt.2.2.2.1) dX8_centreChar_14 ?_
  exact ⟨⟨i, y, rfl, hy, rfl⟩, rfl⟩
theorem x_historyEnd {E : EV} {h : AH} {q : Nat} {G : GQ} {s : SQ} (z : RC h q G s) (w : WS' s) {p : Int32} : Ct E yX8_historyEnd cX8_historyEnd 2 (some .int) 7 3 [.ref q, .int p] h (fun v h1 => (∃ (i : Nat) (x : MG), p = nI i ∧ (zH s)[i]? = some x ∧ v = some (.int (nI x.1))) ∧ h1 = h) (fun N h1 => N = "java/util/NoSuchElementException" ∧ ¬ (¬ p < 0 ∧ p < nI (zH s).length) ∧ h1 = h) := by
  refine Ct_of RX8 (by decide +kernel) rfl (Nat.le_of_ble_eq_true rfl) (fun Γ X nt Q hin => ?_)
  refine V_aload_n (pc := 0) X 0 dX8_historyEnd_0 rfl ?_
  refine V_iload_n (pc := 1) X 1 dX8_historyEnd_1 rfl ?_
  refine V_callV (pc := 2) X clk8 (by decide) z.k _ (c_messageOf z w) cw_X8_211 (Q.room (by decide) (by decide)) rfl (Nat.le_of_ble_eq_true rfl) rfl (by omega) dX8_historyEnd_2 (fun N h9 y => VX_out X Q nt y) ?_
  rintro v2 h2 ⟨⟨i, a, x, rfl, hx, ⟨ol, R, mh, mL, mC, mO, -⟩, rfl⟩, e2⟩
  rw [e2]
  simp only [Option.toList_some, List.cons_append, List.nil_append]
  refine V_get (pc := 5) X fl_X8_161 dX8_historyEnd_5 mh.1 mh.2.1 ?_
  refine V_iret (pc := 8) X Q rfl rfl dX8_historyEnd_8 ?_
  exact ⟨⟨i, x, rfl, hx, rfl⟩, rfl⟩
theorem x_historySize {E : EV} {h : AH} {q : Nat} {G : GQ} {s : SQ} (z : RC h q G s) (w : WS' s) {p : Int32} : Ct E yX8_historySize cX8_historySize 2 (some .int) 7 3 [.ref q, .int p] h (fun v h1 => (∃ (i : Nat) (x : MG), p = nI i ∧ (zH s)[i]? = some x ∧ v = some (.int (nI x.2.2.length))) ∧ h1 = h) (fun N h1 => N = "java/util/NoSuchElementException" ∧ ¬ (¬ p < 0 ∧ p < nI (zH s).length) ∧ h1 = h) := by
  refine Ct_of RX8 (by decide +kernel) rfl (Nat.le_of_ble_eq_true rfl) (fun Γ X nt Q hin => ?_)
  refine V_aload_n (pc := 0) X 0 dX8_historySize_0 rfl ?_
  refine V_iload_n (pc := 1) X 1 dX8_historySize_1 rfl ?_
  refine V_callV (pc := 2) X clk8 (by decide) z.k _ (c_messageOf z w) cw_X8_211 (Q.room (by decide) (by decide)) rfl (Nat.le_of_ble_eq_true rfl) rfl (by omega) dX8_historySize_2 (fun N h9 y => VX_out X Q nt y) ?_
  rintro v2 h2 ⟨⟨i, a, x, rfl, hx, ⟨ol, R, mh, mL, mC, mO, -⟩, rfl⟩, e2⟩
  rw [e2]
  simp only [Option.toList_some, List.cons_append, List.nil_append]
  refine V_get (pc := 5) X fl_X8_154 dX8_historySize_5 mh.1 mh.2.2.2.1 ?_
  refine V_callL (pc := 8) X (Or.inl mh.2.2.2.2.2.1) _ (c_size mh.2.2.2.2.2.1) cw_X8_102 (Q.room (by decide) (by decide)) rfl (Nat.le_of_ble_eq_true rfl) rfl (by omega) dX8_historySize_8 (fun _ _ z => z.elim) ?_
  rintro v8 h8 ⟨rfl, e8⟩
  rw [e8, mL, mO.1]
  simp only [Option.toList_some, List.cons_append, List.nil_append]
  refine V_iret (pc := 11) X Q rfl rfl dX8_historySize_11 ?_
  exact ⟨⟨i, x, rfl, hx, rfl⟩, rfl⟩
theorem x_historyKind {E : EV} {h : AH} {q : Nat} {G : GQ} {s : SQ} (z : RC h q G s) (w : WS' s) {p r : Int32} : Ct E yX8_historyKind cX8_historyKind 3 (some .char) 8 6 [.ref q, .int p, .int r] h (fun v h1 => (∃ (i j : Nat) (x : MG) (o : SO), p = nI i ∧ r = nI j ∧ (zH s)[i]? = some x ∧ x.2.2[j]? = some o ∧ v = some (.int (kc o.1))) ∧ h1 = h) (fun N h1 => ((N = "java/util/NoSuchElementException" ∧ ¬ (¬ p < 0 ∧ p < nI (zH s).length)) ∨ (N = "java/lang/IndexOutOfBoundsException" ∧ ∃ (i : Nat) (x : MG), p = nI i ∧ (zH s)[i]? = some x ∧ ¬ (¬ r < 0 ∧ r < nI x.2.2.length))) ∧ h1 = h) := by
  refine Ct_of RX8 (by decide +kernel) rfl (Nat.le_of_ble_eq_true rfl) (fun Γ X nt Q hin => ?_)
  refine V_aload_n (pc := 0) X 0 dX8_historyKind_0 rfl ?_
  refine V_iload_n (pc := 1) X 1 dX8_historyKind_1 rfl ?_
  refine V_iload_n (pc := 2) X 2 dX8_historyKind_2 rfl ?_
  refine V_callV (pc := 3) X clk8 (by decide) z.k _ (c_operationOf z w) cw_X8_215 (Q.room (by decide) (by decide)) rfl (Nat.le_of_ble_eq_true rfl) rfl (by omega) dX8_historyKind_3 (fun N h9 y => VX_out X Q nt y) ?_
  rintro v3 h3 ⟨⟨i, j, a, x, o, rfl, rfl, hx, ho, hoa, rfl⟩, e3⟩
  rw [e3]
  simp only [Option.toList_some, List.cons_append, List.nil_append]
  refine V_get (pc := 6) X fl_X8_219 dX8_historyKind_6 hoa.1 hoa.2.2.2.1 ?_
  refine V_iret (pc := 9) X Q rfl (kc_fit o.1).1 dX8_historyKind_9 ?_
  exact ⟨⟨i, j, x, o, rfl, rfl, hx, ho, rfl⟩, rfl⟩
theorem x_historyPosition {E : EV} {h : AH} {q : Nat} {G : GQ} {s : SQ} (z : RC h q G s) (w : WS' s) {p r : Int32} : Ct E yX8_historyPosition cX8_historyPosition 3 (some .int) 8 6 [.ref q, .int p, .int r] h (fun v h1 => (∃ (i j : Nat) (x : MG) (o : SO), p = nI i ∧ r = nI j ∧ (zH s)[i]? = some x ∧ x.2.2[j]? = some o ∧ v = some (.int (ps o.1 o.2.1))) ∧ h1 = h) (fun N h1 => ((N = "java/util/NoSuchElementException" ∧ ¬ (¬ p < 0 ∧ p < nI (zH s).length)) ∨ (N = "java/lang/IndexOutOfBoundsException" ∧ ∃ (i : Nat) (x : MG), p = nI i ∧ (zH s)[i]? = some x ∧ ¬ (¬ r < 0 ∧ r < nI x.2.2.length))) ∧ h1 = h) := by
  refine Ct_of RX8 (by decide +kernel) rfl (Nat.le_of_ble_eq_true rfl) (fun Γ X nt Q hin => ?_)
  refine V_aload_n (pc := 0) X 0 dX8_historyPosition_0 rfl ?_
  refine V_iload_n (pc := 1) X 1 dX8_historyPosition_1 rfl ?_
  refine V_iload_n (pc := 2) X 2 dX8_historyPosition_2 rfl ?_
  refine V_callV (pc := 3) X clk8 (by decide) z.k _ (c_operationOf z w) cw_X8_215 (Q.room (by decide) (by decide)) rfl (Nat.le_of_ble_eq_true rfl) rfl (by omega) dX8_historyPosition_3 (fun N h9 y => VX_out X Q nt y) ?_
  rintro v3 h3 ⟨⟨i, j, a, x, o, rfl, rfl, hx, ho, hoa, rfl⟩, e3⟩
  rw [e3]
  simp only [Option.toList_some, List.cons_append, List.nil_append]
  refine V_get (pc := 6) X fl_X8_224 dX8_historyPosition_6 hoa.1 hoa.2.2.2.2 ?_
  refine V_iret (pc := 9) X Q rfl rfl dX8_historyPosition_9 ?_
  exact ⟨⟨i, j, x, o, rfl, rfl, hx, ho, rfl⟩, rfl⟩
theorem x_agree {E : EV} {h : AH} {q : Nat} {G : GQ} {s : SQ} (z : RC h q G s) (w : WS' s)  : Ct E yX8_agree cX8_agree 1 (some .boolean) 6 0 [.ref q] h (fun v h1 => v = some (.int (if lks (zT s) (eX (zE s 0)) (eX (zE s 1)) = true ∧ lks (zT s) (eX (zE s 0)) (zC s) = true then 1 else 0)) ∧ h1 = h) noX := by
  refine Ct_of RX8 (by decide +kernel) rfl (Nat.le_of_ble_eq_true rfl) (fun Γ X nt Q hin => ?_)
  obtain ⟨c0, hx0, hc0⟩ := z.tx (e := 0) (by decide)
  obtain ⟨c1, hx1, hc1⟩ := z.tx (e := 1) (by decide)
  have hl0 : (eX (zE s 0)).length ≤ 200 := (w.1 0 (by decide)).1.1.1
  have hl1 : (eX (zE s 1)).length ≤ 200 := (w.1 1 (by decide)).1.1.1
  have l0 := z.lt w (e := 0) (by decide)
  have l1 := z.lt w (e := 1) (by decide)
  have E0 := z.es (e := 0) (by decide)
  have E1 := z.es (e := 1) (by decide)
  have cE := z.2.2.1
  obtain ⟨c2, hx2, hc2⟩ := cE.2.2.2.1
  refine V_aload_n (pc := 0) X 0 dX8_agree_0 rfl ?_
  refine V_get (pc := 1) X fl_X8_12 dX8_agree_1 z.k z.1.2.1 ?_
  refine V_get (pc := 4) X fl_X8_50 dX8_agree_4 E0.1 (E0.f 1) ?_
  refine V_aload_n (pc := 7) X 0 dX8_agree_7 rfl ?_
  refine V_get (pc := 8) X fl_X8_18 dX8_agree_8 z.k z.1.2.2.1 ?_
  refine V_get (pc := 11) X fl_X8_50 dX8_agree_11 E1.1 (E1.f 1) ?_
  refine V_callV (pc := 14) X clk7 (by decide) hx0.1 _ (c_looks hx0 hx1 l0 l1 (by omega) (by omega)) cw_X8_227 (Q.room (by decide) (by decide)) rfl (Nat.le_of_ble_eq_true rfl) rfl (by omega) dX8_agree_14 (fun _ _ z => z.elim) ?_
  rintro v14 h14 ⟨rfl, e14⟩
  rw [e14]
  simp only [Option.toList_some, List.cons_append, List.nil_append]
  refine V_if_eq (pc := 17) X 44 dX8_agree_17 (by decide) (fun c17 => ?_) (fun c17 => ?_)
  · have hb : ¬ lks (zT s) (eX (zE s 0)) (eX (zE s 1)) = true := fun y => by rw [if_pos y] at c17; exact absurd c17 (by decide)
    refine V_iconst (pc := 44) (v := 0) X dX8_agree_44 (by decide) ?_
    refine V_iret (pc := 45) X Q rfl rfl dX8_agree_45 ?_
    first
    | (rw [if_neg (fun y => hb y.1)]; exact ⟨rfl, rfl⟩)
    | (rw [if_neg (fun y => hd y.2)]; exact ⟨rfl, rfl⟩)
    | (rw [if_pos ⟨hb, hd⟩]; exact ⟨rfl, rfl⟩)
  · have hb : lks (zT s) (eX (zE s 0)) (eX (zE s 1)) = true := by
      by_cases y : lks (zT s) (eX (zE s 0)) (eX (zE s 1)) = true
      · exact y
      · rw [if_neg y] at c17; exact absurd rfl c17
    refine V_aload_n (pc := 20) X 0 dX8_agree_20 rfl ?_
    refine V_get (pc := 21) X fl_X8_12 dX8_agree_21 z.k z.1.2.1 ?_
    refine V_get (pc := 24) X fl_X8_50 dX8_agree_24 E0.1 (E0.f 1) ?_
    refine V_aload_n (pc := 27) X 0 dX8_agree_27 rfl ?_
    refine V_get (pc := 28) X fl_X8_24 dX8_agree_28 z.k z.1.2.2.2.1 ?_
    refine V_get (pc := 31) X fl_X8_192 dX8_agree_31 cE.1 cE.2.1 ?_
    refine V_callV (pc := 34) X clk7 (by decide) hx0.1 _ (c_looks hx0 hx2 l0 (z.lc w) (by omega) (by have := w.2.1.1; omega)) cw_X8_227 (Q.room (by decide) (by decide)) rfl (Nat.le_of_ble_eq_true rfl) rfl (by omega) dX8_agree_34 (fun _ _ z => z.elim) ?_
    rintro v34 h34 ⟨rfl, e34⟩
    rw [e34]
    simp only [Option.toList_some, List.cons_append, List.nil_append]
    refine V_if_eq (pc := 37) X 44 dX8_agree_37 (by decide) (fun c37 => ?_) (fun c37 => ?_)
    · have hd : ¬ lks (zT s) (eX (zE s 0)) (zC s) = true := fun y => by rw [if_pos y] at c37; exact absurd c37 (by decide)
      refine V_iconst (pc := 44) (v := 0) X dX8_agree_44 (by decide) ?_
      refine V_iret (pc := 45) X Q rfl rfl dX8_agree_45 ?_
      first
      | (rw [if_neg (fun y => hb y.1)]; exact ⟨rfl, rfl⟩)
      | (rw [if_neg (fun y => hd y.2)]; exact ⟨rfl, rfl⟩)
      | (rw [if_pos ⟨hb, hd⟩]; exact ⟨rfl, rfl⟩)
    · have hd : lks (zT s) (eX (zE s 0)) (zC s) = true := by
        by_cases y : lks (zT s) (eX (zE s 0)) (zC s) = true
        · exact y
        · rw [if_neg y] at c37; exact absurd rfl c37
      refine V_iconst (pc := 40) (v := 1) X dX8_agree_40 (by decide) ?_
      refine V_goto (pc := 41) X 45 dX8_agree_41 (by decide) ?_
      refine V_iret (pc := 45) X Q rfl rfl dX8_agree_45 ?_
      first
      | (rw [if_neg (fun y => hb y.1)]; exact ⟨rfl, rfl⟩)
      | (rw [if_neg (fun y => hd y.2)]; exact ⟨rfl, rfl⟩)
      | (rw [if_pos ⟨hb, hd⟩]; exact ⟨rfl, rfl⟩)
theorem RC.sI1 {h : AH} {q : Nat} {G : GQ} {s : SQ} (z : RC h q G s) {l : List Int32} (i : Nat) (hi : (i = 3 ∧ l.length = 201) ∨ (i = 4 ∧ l.length = 803)) : RC (sI h (G.2.2.2 i) l) q G s ∧ FC h (sI h (G.2.2.2 i) l) := by
  obtain ⟨z0, z1, zc, z2, z3, z4, z5⟩ := z
  have o4 : own h (G.2.2.2 i) = te 4 := z4.2 i (by omega) (by omega)
  have F : Fr (fun a => a = G.2.2.2 i) h (sI h (G.2.2.2 i) l) := Fr_sI rfl
  have n : ∀ e, e ≠ 4 → ∀ a, own h a = te e → ¬ a = G.2.2.2 i := fun e he a y u => ref_ne (a := 20 + e) (b := 24) (by omega) (y.symm.trans (by rw [u]; exact o4))
  have n' : ∀ t, t ≠ 24 → ∀ a, own h a = .ref t → ¬ a = G.2.2.2 i := fun t ht a y u => ref_ne (a := t) (b := 24) (by omega) (y.symm.trans (by rw [u]; exact o4))
  refine ⟨⟨z0.fr F (n 5 (by decide)), z1.fr F (fun e he => n e (by omega)), zc.fr F (fun i hi => n 2 (by decide) _ (zc.2.2.2.2.2.2.2 i hi)), z2.fr zc z1 F (n 2 (by decide)) (fun e he => n e (by omega)) (n' 35 (by decide)) (fun (m : Nat) => n' (40 + m) (Nat.ne_of_gt (Nat.lt_of_lt_of_le (show 24 < 40 by decide) (Nat.le_add_right 40 m)))), z3.fr F (n 3 (by decide)), ⟨?_, z4.2⟩, z5.fr F (n' 30 (by decide))⟩, FC.of F (fun a _ y => by rw [y]; exact te_oth (by decide) o4)⟩
  rcases hi with ⟨rfl, hl⟩ | ⟨rfl, hl⟩
  · exact z4.1.sI1 hl
  · exact z4.1.sI2 hl
theorem x_distance {E : EV} {h : AH} {q : Nat} {G : GQ} {s : SQ} (z : RC h q G s) (w : WS' s)  : Ct E yX8_distance cX8_distance 1 (some .int) 7 0 [.ref q] h (fun v h1 => v = some (.int (nI (dst (mt (zT s) (eX (zE s 0)) (eX (zE s 1))) (eX (zE s 0)).length (eX (zE s 1)).length))) ∧ RC h1 q G s ∧ FC h h1) noX := by
  refine Ct_of RX8 (by decide +kernel) rfl (Nat.le_of_ble_eq_true rfl) (fun Γ X nt Q hin => ?_)
  obtain ⟨c0, hx0, hc0⟩ := z.tx (e := 0) (by decide)
  obtain ⟨c1, hx1, hc1⟩ := z.tx (e := 1) (by decide)
  have hl0 : (eX (zE s 0)).length ≤ 200 := (w.1 0 (by decide)).1.1.1
  have hl1 : (eX (zE s 1)).length ≤ 200 := (w.1 1 (by decide)).1.1.1
  have l0 := z.lt w (e := 0) (by decide)
  have l1 := z.lt w (e := 1) (by decide)
  have E0 := z.es (e := 0) (by decide)
  have E1 := z.es (e := 1) (by decide)
  have cg := z.2.2.2.2.2.1.1
  refine V_aload_n (pc := 0) X 0 dX8_distance_0 rfl ?_
  refine V_get (pc := 1) X fl_X8_38 dX8_distance_1 z.k z.1.2.2.2.2.2.1 ?_
  refine V_aload_n (pc := 4) X 0 dX8_distance_4 rfl ?_
  refine V_get (pc := 5) X fl_X8_12 dX8_distance_5 z.k z.1.2.1 ?_
  refine V_get (pc := 8) X fl_X8_50 dX8_distance_8 E0.1 (E0.f 1) ?_
  refine V_aload_n (pc := 11) X 0 dX8_distance_11 rfl ?_
  refine V_get (pc := 12) X fl_X8_18 dX8_distance_12 z.k z.1.2.2.1 ?_
  refine V_get (pc := 15) X fl_X8_50 dX8_distance_15 E1.1 (E1.f 1) ?_
  refine V_callV (pc := 18) X clk1 (by decide) cg.1 _ (c_byTable cg hx0 hx1 l0 l1 hl0 hl1) cw_X8_231 (Q.room (by decide) (by decide)) rfl (Nat.le_of_ble_eq_true rfl) rfl (by omega) dX8_distance_18 (fun _ _ z => z.elim) ?_
  rintro v18 h18 ⟨rfl, l, e18, hll⟩
  rw [e18]
  simp only [Option.toList_some, List.cons_append, List.nil_append]
  refine V_iret (pc := 21) X Q rfl rfl dX8_distance_21 ?_
  exact ⟨rfl, z.sI1 3 (Or.inl ⟨rfl, hll⟩)⟩
theorem x_distanceByWays {E : EV} {h : AH} {q : Nat} {G : GQ} {s : SQ} (z : RC h q G s) (w : WS' s)  : Ct E yX8_distanceByWays cX8_distanceByWays 1 (some .int) 8 0 [.ref q] h (fun v h1 => v = some (.int (nI (dst (mt (zT s) (eX (zE s 0)) (eX (zE s 1))) (eX (zE s 0)).length (eX (zE s 1)).length))) ∧ RC h1 q G s ∧ FC h h1) noX := by
  refine Ct_of RX8 (by decide +kernel) rfl (Nat.le_of_ble_eq_true rfl) (fun Γ X nt Q hin => ?_)
  obtain ⟨c0, hx0, hc0⟩ := z.tx (e := 0) (by decide)
  obtain ⟨c1, hx1, hc1⟩ := z.tx (e := 1) (by decide)
  have hl0 : (eX (zE s 0)).length ≤ 200 := (w.1 0 (by decide)).1.1.1
  have hl1 : (eX (zE s 1)).length ≤ 200 := (w.1 1 (by decide)).1.1.1
  have l0 := z.lt w (e := 0) (by decide)
  have l1 := z.lt w (e := 1) (by decide)
  have E0 := z.es (e := 0) (by decide)
  have E1 := z.es (e := 1) (by decide)
  have cg := z.2.2.2.2.2.1.1
  refine V_aload_n (pc := 0) X 0 dX8_distanceByWays_0 rfl ?_
  refine V_get (pc := 1) X fl_X8_38 dX8_distanceByWays_1 z.k z.1.2.2.2.2.2.1 ?_
  refine V_aload_n (pc := 4) X 0 dX8_distanceByWays_4 rfl ?_
  refine V_get (pc := 5) X fl_X8_12 dX8_distanceByWays_5 z.k z.1.2.1 ?_
  refine V_get (pc := 8) X fl_X8_50 dX8_distanceByWays_8 E0.1 (E0.f 1) ?_
  refine V_aload_n (pc := 11) X 0 dX8_distanceByWays_11 rfl ?_
  refine V_get (pc := 12) X fl_X8_18 dX8_distanceByWays_12 z.k z.1.2.2.1 ?_
  refine V_get (pc := 15) X fl_X8_50 dX8_distanceByWays_15 E1.1 (E1.f 1) ?_
  refine V_callV (pc := 18) X clk1 (by decide) cg.1 _ (c_byWays cg hx0 hx1 l0 l1 hl0 hl1) cw_X8_235 (Q.room (by decide) (by decide)) rfl (Nat.le_of_ble_eq_true rfl) rfl (by omega) dX8_distanceByWays_18 (fun _ _ z => z.elim) ?_
  rintro v18 h18 ⟨rfl, l, e18, hll⟩
  rw [e18]
  simp only [Option.toList_some, List.cons_append, List.nil_append]
  refine V_iret (pc := 21) X Q rfl rfl dX8_distanceByWays_21 ?_
  exact ⟨rfl, z.sI1 4 (Or.inr ⟨rfl, hll⟩)⟩
theorem x_ownShare {E : EV} {h : AH} {q : Nat} {G : GQ} {s : SQ} (z : RC h q G s) (w : WS' s) {x : Int32} : Ct E yX8_ownShare cX8_ownShare 4 (some .float) 7 6 [.ref q, .int x] h (fun v h1 => (∃ e : Nat, e ≤ 1 ∧ x = nI e ∧ (eX (zE s e)).length ≠ 0 ∧ v = some (.float (FP.fdiv (FP.i2f (nI (cow (zT s) e (eX (zE s e))))) (FP.i2f (nI (eX (zE s e)).length))))) ∧ h1 = h) (fun N h1 => ((N = "java/lang/IndexOutOfBoundsException" ∧ ¬ (x = 0 ∨ x = 1)) ∨ (N = "java/lang/ArithmeticException" ∧ ∃ e : Nat, e ≤ 1 ∧ x = nI e ∧ (eX (zE s e)).length = 0)) ∧ h1 = h) := by
  refine Ct_of RX8 (by decide +kernel) rfl (Nat.le_of_ble_eq_true rfl) (fun Γ X nt Q hin => ?_)
  refine V_aload_n (pc := 0) X 0 dX8_ownShare_0 rfl ?_
  refine V_iload_n (pc := 1) X 1 dX8_ownShare_1 rfl ?_
  refine V_callV (pc := 2) X clk8 (by decide) z.k _ (c_endN z) cw_X8_46 (Q.room (by decide) (by decide)) rfl (Nat.le_of_ble_eq_true rfl) rfl (by omega) dX8_ownShare_2 (fun N h9 y => VX_out X Q nt ⟨Or.inl ⟨y.1, y.2.1⟩, y.2.2⟩) ?_
  rintro v2 h2 ⟨⟨e, he, rfl, rfl⟩, e2⟩
  rw [e2]
  simp only [Option.toList_some, List.cons_append, List.nil_append]
  obtain ⟨c, hx, hc⟩ := z.tx he
  have hl : (eX (zE s e)).length ≤ 200 := (w.1 e he).1.1.1
  have hcw := cow_le (zT s) e (eX (zE s e))
  refine V_astore_n (pc := 5) X [(2, .ref _), (0, .ref _), (1, .int _)] dX8_ownShare_5 rfl (by decide) rfl ?_
  refine V_aload_n (pc := 6) X 0 dX8_ownShare_6 rfl ?_
  refine V_get (pc := 7) X fl_X8_50 dX8_ownShare_7 (z.es he).1 ((z.es he).f 1) ?_
  refine V_callV (pc := 10) X clk7 (by decide) hx.1 _ (c_tsize hx) cw_X8_76 (Q.room (by decide) (by decide)) rfl (Nat.le_of_ble_eq_true rfl) rfl (by omega) dX8_ownShare_10 (fun _ _ z => z.elim) ?_
  rintro v10 h10 ⟨rfl, e10⟩
  rw [e10]
  simp only [Option.toList_some, List.cons_append, List.nil_append]
  refine V_istore_n (pc := 13) X [(3, .int _), (2, .ref _), (0, .ref _), (1, .int _)] dX8_ownShare_13 rfl (by decide) rfl ?_
  refine V_iload_n (pc := 14) X 0 dX8_ownShare_14 rfl ?_
  refine V_if_ne (pc := 15) X 28 dX8_ownShare_15 (by decide) (fun c15 => ?_) (fun c15 => ?_)
  · have h0 : (eX (zE s e)).length ≠ 0 := fun y => c15 (by rw [y]; rfl)
    refine V_aload_n (pc := 28) X 1 dX8_ownShare_28 rfl ?_
    refine V_get (pc := 29) X fl_X8_50 dX8_ownShare_29 (z.es he).1 ((z.es he).f 1) ?_
    refine V_iload_n (pc := 32) X 3 dX8_ownShare_32 rfl ?_
    refine V_callV (pc := 33) X clk7 (by decide) hx.1 _ (c_countOf hx (z.lt w he) (by omega) (g := e) (by omega)) cw_X8_243 (Q.room (by decide) (by decide)) rfl (Nat.le_of_ble_eq_true rfl) rfl (by omega) dX8_ownShare_33 (fun _ _ z => z.elim) ?_
    rintro v33 h33 ⟨rfl, e33⟩
    rw [e33]
    simp only [Option.toList_some, List.cons_append, List.nil_append]
    refine V_i2f (pc := 36) X dX8_ownShare_36 ?_
    refine V_iload_n (pc := 37) X 0 dX8_ownShare_37 rfl ?_
    refine V_i2f (pc := 38) X dX8_ownShare_38 ?_
    refine V_fdiv (pc := 39) X dX8_ownShare_39 (nn32 (by omega) (by omega) h0) ?_
    refine V_fret (pc := 40) X Q rfl dX8_ownShare_40 ?_
    exact ⟨⟨e, he, rfl, h0, rfl⟩, rfl⟩
  · have h0 : (eX (zE s e)).length = 0 := (nI_eq (b := 0) (by omega) (by decide)).mp c15
    exact V_throw (pc := 18) X Q nt tw_X8_238_240 dX8_ownShare_18 dX8_ownShare_21 dX8_ownShare_22 dX8_ownShare_24 dX8_ownShare_27 (by decide) (by decide) (by omega) ⟨Or.inr ⟨rfl, e, he, rfl, h0⟩, rfl⟩
theorem x_meanRun {E : EV} {h : AH} {q : Nat} {G : GQ} {s : SQ} (z : RC h q G s) (w : WS' s) (hs : ((zH s).map (fun x => x.2.2.length)).sum ≤ 200) : Ct E yX8_meanRun cX8_meanRun 2 (some .double) 7 3 [.ref q] h (fun v h1 => ((zH s).length ≠ 0 ∧ v = some (.double (FP.ddiv (FP.i2d (nI ((zH s).map (fun x => x.2.2.length)).sum)) (FP.i2d (nI (zH s).length))))) ∧ h1 = h) (fun N h1 => N = "java/lang/ArithmeticException" ∧ (zH s).length = 0 ∧ h1 = h) := by
  refine Ct_of RX8 (by decide +kernel) rfl (Nat.le_of_ble_eq_true rfl) (fun Γ X nt Q hin => ?_)
  have cE := z.2.2.1
  obtain ⟨c, hx, hc⟩ := cE.2.2.2.1
  obtain ⟨Hs, Us, hL, hH, hu, hn⟩ := z.2.2.2.1
  have hHl := hH.1
  have hl := w.2.2.1.1
  refine V_aload_n (pc := 0) X 0 dX8_meanRun_0 rfl ?_
  refine V_get (pc := 1) X fl_X8_24 dX8_meanRun_1 z.k z.1.2.2.2.1 ?_
  refine V_get (pc := 4) X fl_X8_208 dX8_meanRun_4 cE.1 cE.2.2.1 ?_
  refine V_callL (pc := 7) X (Or.inl cE.2.2.2.2.1) _ (c_size cE.2.2.2.2.1) cw_X8_102 (Q.room (by decide) (by decide)) rfl (Nat.le_of_ble_eq_true rfl) rfl (by omega) dX8_meanRun_7 (fun _ _ z => z.elim) ?_
  rintro v8 h8 ⟨rfl, e8⟩
  rw [e8, hL, hH.1]
  simp only [Option.toList_some, List.cons_append, List.nil_append]
  refine V_istore_n (pc := 10) X [(1, .int _), (0, .ref _)] dX8_meanRun_10 rfl (by decide) rfl ?_
  refine V_iload_n (pc := 11) X 0 dX8_meanRun_11 rfl ?_
  refine V_if_ne (pc := 12) X 25 dX8_meanRun_12 (by decide) (fun c12 => ?_) (fun c12 => ?_)
  · have h0 : (zH s).length ≠ 0 := fun y => c12 (by rw [y]; rfl)
    refine V_aload_n (pc := 25) X 1 dX8_meanRun_25 rfl ?_
    refine V_get (pc := 26) X fl_X8_24 dX8_meanRun_26 z.k z.1.2.2.2.1 ?_
    refine V_callV (pc := 29) X clk0 (by decide) cE.1 _ (c_count cE hL hH (by omega) (fun x hx => (w.2.2.1.2 x hx).2.2.1)) cw_X8_248 (Q.room (by decide) (by decide)) rfl (Nat.le_of_ble_eq_true rfl) rfl (by omega) dX8_meanRun_29 (fun _ _ z => z.elim) ?_
    rintro v29 h29 ⟨rfl, e29⟩
    rw [e29]
    simp only [Option.toList_some, List.cons_append, List.nil_append]
    refine V_i2d (pc := 32) X dX8_meanRun_32 ?_
    refine V_iload_n (pc := 33) X 0 dX8_meanRun_33 rfl ?_
    refine V_i2d (pc := 34) X dX8_meanRun_34 ?_
    refine V_ddiv (pc := 35) X dX8_meanRun_35 (nn64 (by omega) (by omega) h0) ?_
    refine V_dret (pc := 36) X Q rfl dX8_meanRun_36 ?_
    exact ⟨⟨h0, rfl⟩, rfl⟩
  · have h0 : (zH s).length = 0 := (nI_eq (b := 0) (by omega) (by decide)).mp c12
    exact V_throw (pc := 15) X Q nt tw_X8_238_246 dX8_meanRun_15 dX8_meanRun_18 dX8_meanRun_19 dX8_meanRun_21 dX8_meanRun_24 (by decide) (by decide) (by omega) ⟨rfl, h0, rfl⟩
