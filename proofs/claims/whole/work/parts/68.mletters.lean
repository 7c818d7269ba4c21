/-! THE MODEL: LETTERS, HISTORY -/
theorem btw_iff {p : Int32} {n : Nat} (hn : n < 2 ^ 30) : (0 ≤ p ∧ p ≤ nI n - 1) ↔ (¬ p < 0 ∧ p < nI n) := by
  have e1 : (nI n - 1).toInt = (n : Int) - 1 := by
    rw [Int32.toInt_sub, nI_toInt (by omega)]
    have : (1 : Int32).toInt = 1 := by decide
    rw [this]
    exact Int.bmod_eq_of_le (by omega) (by omega)
  rw [Int32.le_iff_toInt_le, Int32.le_iff_toInt_le, Int32.lt_iff_toInt_lt, Int32.lt_iff_toInt_lt, e1, nI_toInt (by omega)]
  have a : (0 : Int32).toInt = 0 := by decide
  rw [a]
  omega
theorem i2c_ok {c : Nat} (h : c < 127) : ((nI c).toUInt32 % 65536).toInt32 = nI c := by
  rw [pk_char, pk_tn (by omega), Nat.mod_eq_of_lt (by omega)]
theorem chr_any (x : Int32) : narrow .char (.int (x.toUInt32 % 65536).toInt32) = .int (x.toUInt32 % 65536).toInt32 := by
  rw [pk_char]
  exact (pk_charN (Nat.mod_lt _ (by decide))).1
theorem m_notAt {E : EV} {h : AH} {q : Nat} {A : Nat → Nat} {F : MS'} {s : SQ} (mp : MP h q A F) (rm : RM (zT s) F s) (w : WS' s) {x p : Int32} : Ct E yX9_notAt cX9_notAt 3 (some .int) 3 0 [.ref q, .int x, .int p] h (fun v h1 => ((∃ e i y : Nat, e ≤ 1 ∧ x = nI e ∧ p = nI i ∧ (eX (zE s e))[i]? = some y ∧ v = some (.int 0)) ∨ (¬ (x = 0 ∨ x = 1) ∧ v = some (.int (nI 1))) ∨ (∃ e : Nat, e ≤ 1 ∧ x = nI e ∧ ¬ (¬ p < 0 ∧ p < nI (eX (zE s e)).length) ∧ v = some (.int (nI 2)))) ∧ h1 = h) noX := by
  refine Ct_of RX9 (by decide +kernel) rfl (Nat.le_of_ble_eq_true rfl) (fun Γ X nt Q hin => ?_)
  refine V_iload_n (pc := 0) X 1 dX9_notAt_0 rfl ?_
  refine V_callS (pc := 1) X _ m_isEnd cw_X9_140 (Q.room (by decide) (by decide)) rfl (Nat.le_of_ble_eq_true rfl) rfl (by omega) dX9_notAt_1 (fun _ _ z => z.elim) ?_
  rintro v1 h1 ⟨rfl, e1⟩
  rw [e1]
  simp only [Option.toList_some, List.cons_append, List.nil_append]
  refine V_if_ne (pc := 4) X 9 dX9_notAt_4 (by decide) (fun c4 => ?_) (fun c4 => ?_)
  · have ke : x = 0 ∨ x = 1 := by
      by_cases y : 0 ≤ x ∧ x ≤ 1
      · exact end_iff.mp y
      · rw [if_neg y] at c4; exact absurd rfl c4
    obtain ⟨e, he, rfl⟩ := eq01 ke
    have re := (rm.1 e he).1
    have hx : (eX (zE s e)).length ≤ 200 := (w.1 e he).1.1.1
    refine V_iload_n (pc := 9) X 2 dX9_notAt_9 rfl ?_
    refine V_iconst (pc := 10) (v := 0) X dX9_notAt_10 (by decide) ?_
    show V _ _ _ _ _ _ (Value.int (nI 0) :: _)
    refine V_aload_n (pc := 11) X 0 dX9_notAt_11 rfl ?_
    refine V_get (pc := 12) X fl_X9_34 dX9_notAt_12 mp.k (mp.f 909) ?_
    refine V_iload_n (pc := 15) X 1 dX9_notAt_15 rfl ?_
    refine M_ald (pc := 16) X mp ⟨by unfold isA; decide, by decide⟩ (by show _ < 3; omega) dX9_notAt_16 ?_
    rw [re.2.2.2.2.1.2.1]
    refine V_iconst (pc := 17) (v := 1) X dX9_notAt_17 (by decide) ?_
    refine V_isub (pc := 18) X dX9_notAt_18 ?_
    refine V_callS (pc := 19) X _ m_isBetween cw_X9_96 (Q.room (by decide) (by decide)) rfl (Nat.le_of_ble_eq_true rfl) rfl (by omega) dX9_notAt_19 (fun _ _ z => z.elim) ?_
    rintro v19 h19 ⟨rfl, e19⟩
    rw [e19]
    simp only [Option.toList_some, List.cons_append, List.nil_append]
    refine V_if_eq (pc := 22) X 29 dX9_notAt_22 (by decide) (fun c22 => ?_) (fun c22 => ?_)
    · have kp : ¬ (¬ p < 0 ∧ p < nI (eX (zE s e)).length) := fun y => by rw [if_pos (show nI 0 ≤ p ∧ p ≤ nI (eX (zE s e)).length - 1 from (btw_iff (by omega)).mpr y)] at c22; exact absurd c22 (by decide)
      refine V_iconst (pc := 29) (v := 2) X dX9_notAt_29 (by decide) ?_
      show V _ _ _ _ _ _ (Value.int (nI 2) :: _)
      refine V_iret (pc := 30) X Q rfl rfl dX9_notAt_30 ?_
      first
      | exact ⟨Or.inl ⟨e, i, y, he, rfl, rfl, hy, rfl⟩, rfl⟩
      | exact ⟨Or.inr (Or.inr ⟨e, he, rfl, kp, rfl⟩), rfl⟩
    · have kp : ¬ p < 0 ∧ p < nI (eX (zE s e)).length := by
        by_cases y : nI 0 ≤ p ∧ p ≤ nI (eX (zE s e)).length - 1
        · exact (btw_iff (by omega)).mp y
        · rw [if_neg y] at c22; exact absurd rfl c22
      obtain ⟨i, hi, rfl⟩ := nI_of kp.1
      have hil := (nI_ltI (by omega) (by omega)).mp kp.2
      obtain ⟨y, hy⟩ : ∃ y, (eX (zE s e))[i]? = some y := ⟨_, List.getElem?_eq_getElem hil⟩
      refine V_iconst (pc := 25) (v := 0) X dX9_notAt_25 (by decide) ?_
      show V _ _ _ _ _ _ (Value.int (nI 0) :: _)
      refine V_goto (pc := 26) X 30 dX9_notAt_26 (by decide) ?_
      refine V_iret (pc := 30) X Q rfl rfl dX9_notAt_30 ?_
      first
      | exact ⟨Or.inl ⟨e, i, y, he, rfl, rfl, hy, rfl⟩, rfl⟩
      | exact ⟨Or.inr (Or.inr ⟨e, he, rfl, kp, rfl⟩), rfl⟩
  · have ke : ¬ (x = 0 ∨ x = 1) := fun y => by rw [if_pos (end_iff.mpr y)] at c4; exact absurd c4 (by decide)
    refine V_iconst (pc := 7) (v := 1) X dX9_notAt_7 (by decide) ?_
    show V _ _ _ _ _ _ (Value.int (nI 1) :: _)
    refine V_iret (pc := 8) X Q rfl rfl dX9_notAt_8 ?_
    exact ⟨Or.inr (Or.inl ⟨ke, rfl⟩), rfl⟩
theorem y_charAt {E : EV} {h : AH} {q : Nat} {A : Nat → Nat} {F : MS'} {s : SQ} (mp : MP h q A F) (rm : RM (zT s) F s) (w : WS' s) (hH : (hop (zH s)).length ≤ 200) (hT : ∀ y ∈ zL s, (zT s y).1 < 127) {x p : Int32} : Ct E yX9_charAt cX9_charAt 4 (some .char) 4 0 [.ref q, .int x, .int p] h (fun v h1 => ((∃ e i y : Nat, e ≤ 1 ∧ x = nI e ∧ p = nI i ∧ (eX (zE s e))[i]? = some y ∧ v = some (.int (nI (zT s y).1)) ∧ MR h h1 q A s 0) ∨ (¬ (x = 0 ∨ x = 1) ∧ (∃ u : Int32, v = some (.int u)) ∧ MR h h1 q A s 1) ∨ (∃ e : Nat, e ≤ 1 ∧ x = nI e ∧ ¬ (¬ p < 0 ∧ p < nI (eX (zE s e)).length) ∧ (∃ u : Int32, v = some (.int u)) ∧ MR h h1 q A s 2)) ∧ ∃ u : Int32, v = some (.int u) ∧ narrow .char (.int u) = .int u) noX := by
  refine Ct_of RX9 (by decide +kernel) rfl (Nat.le_of_ble_eq_true rfl) (fun Γ X nt Q hin => ?_)
  have gm := FM.refl h
  refine V_aload_n (pc := 0) X 0 dX9_charAt_0 rfl ?_
  refine V_iconst (pc := 1) (v := 0) X dX9_charAt_1 (by decide) ?_
  show V _ _ _ _ _ _ (Value.int (nI 0) :: _)
  refine M_put (pc := 2) X mp (i := 900) (by unfold isS; decide) fl_X9_92 dX9_charAt_2 (fun h2 mp2 fm2 => ?_)
  have gm2 := gm.seq fm2
  have rm2 := rm.th w hH (nI 0)
  refine V_aload_n (pc := 5) X 0 dX9_charAt_5 rfl ?_
  refine V_iload_n (pc := 6) X 1 dX9_charAt_6 rfl ?_
  refine V_iload_n (pc := 7) X 2 dX9_charAt_7 rfl ?_
  refine V_callV (pc := 8) X clk9 (by decide) mp2.k _ (m_notAt mp2 rm2 w) cw_X9_196 (Q.room (by decide) (by decide)) rfl (Nat.le_of_ble_eq_true rfl) rfl (by omega) dX9_charAt_8 (fun _ _ z => z.elim) ?_
  rintro v8 h8 ⟨d8, e8⟩
  rw [e8]
  obtain ⟨cw, rfl, hcw⟩ : ∃ cw : Nat, v8 = some (.int (nI cw)) ∧ ((cw = 0 ∧ ∃ e i y : Nat, e ≤ 1 ∧ x = nI e ∧ p = nI i ∧ (eX (zE s e))[i]? = some y) ∨ (cw = 1 ∧ ¬ (x = 0 ∨ x = 1)) ∨ (cw = 2 ∧ ∃ e : Nat, e ≤ 1 ∧ x = nI e ∧ ¬ (¬ p < 0 ∧ p < nI (eX (zE s e)).length))) := by
    rcases d8 with ⟨e, i, y, a, b, c, d, f⟩ | ⟨a, b⟩ | ⟨e, a, b, c, d⟩
    · exact ⟨0, f, Or.inl ⟨rfl, e, i, y, a, b, c, d⟩⟩
    · exact ⟨1, b, Or.inr (Or.inl ⟨rfl, a⟩)⟩
    · exact ⟨2, d, Or.inr (Or.inr ⟨rfl, e, a, b, c⟩)⟩
  simp only [Option.toList_some, List.cons_append, List.nil_append]
  refine V_istore_n (pc := 11) X [(3, .int _), (0, .ref _), (1, .int _), (2, .int _)] dX9_charAt_11 rfl (by decide) rfl ?_
  refine V_iload_n (pc := 12) X 0 dX9_charAt_12 rfl ?_
  refine V_if_eq (pc := 13) X 24 dX9_charAt_13 (by decide) (fun c13 => ?_) (fun c13 => ?_)
  · obtain ⟨e, i, y, he, rfl, rfl, hy⟩ : ∃ e i y : Nat, e ≤ 1 ∧ x = nI e ∧ p = nI i ∧ (eX (zE s e))[i]? = some y := by
      rcases hcw with ⟨-, a⟩ | ⟨a, -⟩ | ⟨a, -⟩
      · exact a
      · rw [a] at c13; exact absurd c13 (by decide)
      · rw [a] at c13; exact absurd c13 (by decide)
    have tx := (rm2.1 e he).1.2.2.2.2.1
    have hc := hT y ((w.1 e he).1.1.2 y (List.mem_of_getElem? hy))
    have hX := tx.1
    have hil := (List.getElem?_eq_some_iff.mp hy).1
    refine V_aload_n (pc := 24) X 1 dX9_charAt_24 rfl ?_
    refine V_iload_n (pc := 25) X 2 dX9_charAt_25 rfl ?_
    refine V_iload_n (pc := 26) X 3 dX9_charAt_26 rfl ?_
    refine V_callV (pc := 27) X clk9 (by decide) mp2.k _ (m_codeAt mp2 (by omega) tx hy) cw_X9_157 (Q.room (by decide) (by decide)) rfl (Nat.le_of_ble_eq_true rfl) rfl (by omega) dX9_charAt_27 (fun _ _ z => z.elim) ?_
    rintro v27 h27 ⟨rfl, e27⟩
    rw [e27]
    simp only [Option.toList_some, List.cons_append, List.nil_append]
    refine V_i2c (pc := 30) X dX9_charAt_30 ?_
    refine V_iret (pc := 31) X Q rfl (chr_any _) dX9_charAt_31 ?_
    refine ⟨?_, _, rfl, chr_any _⟩
    first
    | exact Or.inl ⟨e, i, y, he, rfl, rfl, hy, by rw [i2c_ok hc], _, mp2, gm2, rm2, fu_s⟩
    | exact Or.inr (fin _ _ _ ⟨_, rfl⟩ mp9 (gm2.seq fm9) rfl)
  · have hc0 : cw ≠ 0 := fun y => c13 (by rw [y]; rfl)
    have fin : ∀ (v : Option Value) (h9 : AH) (F9 : MS'), (∃ u : Int32, v = some (.int u)) → MP h9 q A F9 → FM h h9 → F9 = fu (fu F 900 0 (nI 0)) 900 0 (nI cw) → (¬ (x = 0 ∨ x = 1) ∧ (∃ u : Int32, v = some (.int u)) ∧ MR h h9 q A s 1) ∨ (∃ e : Nat, e ≤ 1 ∧ x = nI e ∧ ¬ (¬ p < 0 ∧ p < nI (eX (zE s e)).length) ∧ (∃ u : Int32, v = some (.int u)) ∧ MR h h9 q A s 2) := fun v h9 F9 hv hmp hfm hF => by
      rcases hcw with ⟨a, -⟩ | ⟨a, b⟩ | ⟨a, e, b1, b2, b3⟩
      · exact absurd a hc0
      · subst hF; subst a; exact Or.inl ⟨b, hv, _, hmp, hfm, rm2.th w hH _, fu_s⟩
      · subst hF; subst a; exact Or.inr ⟨e, b1, b2, b3, hv, _, hmp, hfm, rm2.th w hH _, fu_s⟩
    refine V_aload_n (pc := 16) X 1 dX9_charAt_16 rfl ?_
    refine V_iload_n (pc := 17) X 0 dX9_charAt_17 rfl ?_
    refine V_callV (pc := 18) X clk9 (by decide) mp2.k _ (m_fails mp2 (c := nI cw)) cw_X9_144 (Q.room (by decide) (by decide)) rfl (Nat.le_of_ble_eq_true rfl) rfl (by omega) dX9_charAt_18 (fun _ _ z => z.elim) ?_
    rintro v18 h18 ⟨rfl, mp9, fm9⟩
    simp only [Option.toList_some, List.cons_append, List.nil_append]
    refine V_goto (pc := 21) X 30 dX9_charAt_21 (by decide) ?_
    refine V_i2c (pc := 30) X dX9_charAt_30 ?_
    refine V_iret (pc := 31) X Q rfl (chr_any _) dX9_charAt_31 ?_
    refine ⟨?_, _, rfl, chr_any _⟩
    first
    | exact Or.inl ⟨e, i, y, he, rfl, rfl, hy, by rw [i2c_ok hc], _, mp2, gm2, rm2, fu_s⟩
    | exact Or.inr (fin _ _ _ ⟨_, rfl⟩ mp9 (gm2.seq fm9) rfl)
theorem y_ownerAt {E : EV} {h : AH} {q : Nat} {A : Nat → Nat} {F : MS'} {s : SQ} (mp : MP h q A F) (rm : RM (zT s) F s) (w : WS' s) (hH : (hop (zH s)).length ≤ 200) (hT : ∀ y ∈ zL s, (zT s y).1 < 127) {x p : Int32} : Ct E yX9_ownerAt cX9_ownerAt 4 (some .int) 4 0 [.ref q, .int x, .int p] h (fun v h1 => (∃ e i y : Nat, e ≤ 1 ∧ x = nI e ∧ p = nI i ∧ (eX (zE s e))[i]? = some y ∧ v = some (.int (nI (zT s y).2)) ∧ MR h h1 q A s 0) ∨ (¬ (x = 0 ∨ x = 1) ∧ (∃ u : Int32, v = some (.int u)) ∧ MR h h1 q A s 1) ∨ (∃ e : Nat, e ≤ 1 ∧ x = nI e ∧ ¬ (¬ p < 0 ∧ p < nI (eX (zE s e)).length) ∧ (∃ u : Int32, v = some (.int u)) ∧ MR h h1 q A s 2)) noX := by
  refine Ct_of RX9 (by decide +kernel) rfl (Nat.le_of_ble_eq_true rfl) (fun Γ X nt Q hin => ?_)
  have gm := FM.refl h
  refine V_aload_n (pc := 0) X 0 dX9_ownerAt_0 rfl ?_
  refine V_iconst (pc := 1) (v := 0) X dX9_ownerAt_1 (by decide) ?_
  show V _ _ _ _ _ _ (Value.int (nI 0) :: _)
  refine M_put (pc := 2) X mp (i := 900) (by unfold isS; decide) fl_X9_92 dX9_ownerAt_2 (fun h2 mp2 fm2 => ?_)
  have gm2 := gm.seq fm2
  have rm2 := rm.th w hH (nI 0)
  refine V_aload_n (pc := 5) X 0 dX9_ownerAt_5 rfl ?_
  refine V_iload_n (pc := 6) X 1 dX9_ownerAt_6 rfl ?_
  refine V_iload_n (pc := 7) X 2 dX9_ownerAt_7 rfl ?_
  refine V_callV (pc := 8) X clk9 (by decide) mp2.k _ (m_notAt mp2 rm2 w) cw_X9_196 (Q.room (by decide) (by decide)) rfl (Nat.le_of_ble_eq_true rfl) rfl (by omega) dX9_ownerAt_8 (fun _ _ z => z.elim) ?_
  rintro v8 h8 ⟨d8, e8⟩
  rw [e8]
  obtain ⟨cw, rfl, hcw⟩ : ∃ cw : Nat, v8 = some (.int (nI cw)) ∧ ((cw = 0 ∧ ∃ e i y : Nat, e ≤ 1 ∧ x = nI e ∧ p = nI i ∧ (eX (zE s e))[i]? = some y) ∨ (cw = 1 ∧ ¬ (x = 0 ∨ x = 1)) ∨ (cw = 2 ∧ ∃ e : Nat, e ≤ 1 ∧ x = nI e ∧ ¬ (¬ p < 0 ∧ p < nI (eX (zE s e)).length))) := by
    rcases d8 with ⟨e, i, y, a, b, c, d, f⟩ | ⟨a, b⟩ | ⟨e, a, b, c, d⟩
    · exact ⟨0, f, Or.inl ⟨rfl, e, i, y, a, b, c, d⟩⟩
    · exact ⟨1, b, Or.inr (Or.inl ⟨rfl, a⟩)⟩
    · exact ⟨2, d, Or.inr (Or.inr ⟨rfl, e, a, b, c⟩)⟩
  simp only [Option.toList_some, List.cons_append, List.nil_append]
  refine V_istore_n (pc := 11) X [(3, .int _), (0, .ref _), (1, .int _), (2, .int _)] dX9_ownerAt_11 rfl (by decide) rfl ?_
  refine V_iload_n (pc := 12) X 0 dX9_ownerAt_12 rfl ?_
  refine V_if_eq (pc := 13) X 24 dX9_ownerAt_13 (by decide) (fun c13 => ?_) (fun c13 => ?_)
  · obtain ⟨e, i, y, he, rfl, rfl, hy⟩ : ∃ e i y : Nat, e ≤ 1 ∧ x = nI e ∧ p = nI i ∧ (eX (zE s e))[i]? = some y := by
      rcases hcw with ⟨-, a⟩ | ⟨a, -⟩ | ⟨a, -⟩
      · exact a
      · rw [a] at c13; exact absurd c13 (by decide)
      · rw [a] at c13; exact absurd c13 (by decide)
    have tx := (rm2.1 e he).1.2.2.2.2.1
    have hc := hT y ((w.1 e he).1.1.2 y (List.mem_of_getElem? hy))
    have hX := tx.1
    have hil := (List.getElem?_eq_some_iff.mp hy).1
    refine V_aload_n (pc := 24) X 1 dX9_ownerAt_24 rfl ?_
    refine V_get (pc := 25) X fl_X9_31 dX9_ownerAt_25 mp2.k (mp2.f 908) ?_
    refine V_sipush (pc := 28) (v := 201) X dX9_ownerAt_28 (by decide) ?_
    show V _ _ _ _ _ _ (Value.int (nI 201) :: _)
    refine V_iload_n (pc := 31) X 2 dX9_ownerAt_31 rfl ?_
    refine V_imul (pc := 32) X dX9_ownerAt_32 ?_
    rw [pk_mul]
    refine V_iload_n (pc := 33) X 3 dX9_ownerAt_33 rfl ?_
    refine V_iadd (pc := 34) X dX9_ownerAt_34 ?_
    rw [nI_add]
    refine M_ald (pc := 35) X mp2 ⟨by unfold isA; decide, by decide⟩ (by show _ < 603; omega) dX9_ownerAt_35 ?_
    rw [(tx.2.2 i y hy).2.2]
    refine V_iret (pc := 36) X Q rfl rfl dX9_ownerAt_36 ?_
    first
    | exact Or.inl ⟨e, i, y, he, rfl, rfl, hy, rfl, _, mp2, gm2, rm2, fu_s⟩
    | exact Or.inr (fin _ _ _ ⟨_, rfl⟩ mp9 (gm2.seq fm9) rfl)
  · have hc0 : cw ≠ 0 := fun y => c13 (by rw [y]; rfl)
    have fin : ∀ (v : Option Value) (h9 : AH) (F9 : MS'), (∃ u : Int32, v = some (.int u)) → MP h9 q A F9 → FM h h9 → F9 = fu (fu F 900 0 (nI 0)) 900 0 (nI cw) → (¬ (x = 0 ∨ x = 1) ∧ (∃ u : Int32, v = some (.int u)) ∧ MR h h9 q A s 1) ∨ (∃ e : Nat, e ≤ 1 ∧ x = nI e ∧ ¬ (¬ p < 0 ∧ p < nI (eX (zE s e)).length) ∧ (∃ u : Int32, v = some (.int u)) ∧ MR h h9 q A s 2) := fun v h9 F9 hv hmp hfm hF => by
      rcases hcw with ⟨a, -⟩ | ⟨a, b⟩ | ⟨a, e, b1, b2, b3⟩
      · exact absurd a hc0
      · subst hF; subst a; exact Or.inl ⟨b, hv, _, hmp, hfm, rm2.th w hH _, fu_s⟩
      · subst hF; subst a; exact Or.inr ⟨e, b1, b2, b3, hv, _, hmp, hfm, rm2.th w hH _, fu_s⟩
    refine V_aload_n (pc := 16) X 1 dX9_ownerAt_16 rfl ?_
    refine V_iload_n (pc := 17) X 0 dX9_ownerAt_17 rfl ?_
    refine V_callV (pc := 18) X clk9 (by decide) mp2.k _ (m_fails mp2 (c := nI cw)) cw_X9_144 (Q.room (by decide) (by decide)) rfl (Nat.le_of_ble_eq_true rfl) rfl (by omega) dX9_ownerAt_18 (fun _ _ z => z.elim) ?_
    rintro v18 h18 ⟨rfl, mp9, fm9⟩
    simp only [Option.toList_some, List.cons_append, List.nil_append]
    refine V_goto (pc := 21) X 36 dX9_ownerAt_21 (by decide) ?_
    refine V_iret (pc := 36) X Q rfl rfl dX9_ownerAt_36 ?_
    first
    | exact Or.inl ⟨e, i, y, he, rfl, rfl, hy, rfl, _, mp2, gm2, rm2, fu_s⟩
    | exact Or.inr (fin _ _ _ ⟨_, rfl⟩ mp9 (gm2.seq fm9) rfl)
theorem y_charByHistory {E : EV} {h : AH} {q : Nat} {A : Nat → Nat} {F : MS'} {s : SQ} (mp : MP h q A F) (rm : RM (zT s) F s) (w : WS' s) (hH : (hop (zH s)).length ≤ 200) (hT : ∀ y ∈ zL s, (zT s y).1 < 127) {x p : Int32} : Ct E yX9_charByHistory cX9_charByHistory 3 (some .char) 5 0 [.ref q, .int x, .int p] h (fun v h1 => (∃ e i y : Nat, e ≤ 1 ∧ x = nI e ∧ p = nI i ∧ (eX (zE s e))[i]? = some y ∧ v = some (.int (nI (zT s y).1)) ∧ MR h h1 q A s 0) ∨ (¬ (x = 0 ∨ x = 1) ∧ (∃ u : Int32, v = some (.int u)) ∧ MR h h1 q A s 1) ∨ (∃ e : Nat, e ≤ 1 ∧ x = nI e ∧ ¬ (¬ p < 0 ∧ p < nI (eX (zE s e)).length) ∧ (∃ u : Int32, v = some (.int u)) ∧ MR h h1 q A s 2)) noX := by
  refine Ct_of RX9 (by decide +kernel) rfl (Nat.le_of_ble_eq_true rfl) (fun Γ X nt Q hin => ?_)
  refine V_aload_n (pc := 0) X 0 dX9_charByHistory_0 rfl ?_
  refine V_iload_n (pc := 1) X 1 dX9_charByHistory_1 rfl ?_
  refine V_iload_n (pc := 2) X 2 dX9_charByHistory_2 rfl ?_
  refine V_callV (pc := 3) X clk9 (by decide) mp.k _ (y_charAt mp rm w hH hT) cw_X9_202 (Q.room (by decide) (by decide)) rfl (Nat.le_of_ble_eq_true rfl) rfl (by omega) dX9_charByHistory_3 (fun _ _ z => z.elim) ?_
  rintro v3 h3 ⟨d3, u, rfl, hn⟩
  simp only [Option.toList_some, List.cons_append, List.nil_append]
  refine V_iret (pc := 6) X Q rfl hn dX9_charByHistory_6 ?_
  exact d3
theorem y_lengthByHistory {E : EV} {h : AH} {q : Nat} {A : Nat → Nat} {F : MS'} {s : SQ} (mp : MP h q A F) (rm : RM (zT s) F s) (w : WS' s) (hH : (hop (zH s)).length ≤ 200) {x : Int32} : Ct E yX9_lengthByHistory cX9_lengthByHistory 2 (some .int) 4 0 [.ref q, .int x] h (fun v h1 => (∃ e : Nat, e ≤ 1 ∧ x = nI e ∧ v = some (.int (nI ((eX (zE s e)).length))) ∧ MR h h1 q A s 0) ∨ (¬ (x = 0 ∨ x = 1) ∧ (∃ u : Int32, v = some (.int u)) ∧ MR h h1 q A s 1)) noX := by
  refine Ct_of RX9 (by decide +kernel) rfl (Nat.le_of_ble_eq_true rfl) (fun Γ X nt Q hin => ?_)
  refine V_aload_n (pc := 0) X 0 dX9_lengthByHistory_0 rfl ?_
  refine V_iload_n (pc := 1) X 1 dX9_lengthByHistory_1 rfl ?_
  refine V_callV (pc := 2) X clk9 (by decide) mp.k _ (y_length mp rm w hH) cw_X9_199 (Q.room (by decide) (by decide)) rfl (Nat.le_of_ble_eq_true rfl) rfl (by omega) dX9_lengthByHistory_2 (fun _ _ z => z.elim) ?_
  rintro v3 h3 d3
  obtain ⟨u, rfl⟩ : ∃ u : Int32, v3 = some (.int u) := d3.elim (fun ⟨e, _, _, b, _⟩ => ⟨_, b⟩) (fun y => y.2.1)
  simp only [Option.toList_some, List.cons_append, List.nil_append]
  refine V_iret (pc := 5) X Q rfl rfl dX9_lengthByHistory_5 ?_
  exact d3
theorem y_centreChar {E : EV} {h : AH} {q : Nat} {A : Nat → Nat} {F : MS'} {s : SQ} (mp : MP h q A F) (rm : RM (zT s) F s) (w : WS' s) (hH : (hop (zH s)).length ≤ 200) (hT : ∀ y ∈ zL s, (zT s y).1 < 127) {p : Int32} : Ct E yX9_centreChar cX9_centreChar 2 (some .char) 4 0 [.ref q, .int p] h (fun v h1 => (∃ i y : Nat, p = nI i ∧ (zC s)[i]? = some y ∧ v = some (.int (nI (zT s y).1)) ∧ MR h h1 q A s 0) ∨ (¬ (¬ p < 0 ∧ p < nI (zC s).length) ∧ (∃ u : Int32, v = some (.int u)) ∧ MR h h1 q A s 1)) noX := by
  refine Ct_of RX9 (by decide +kernel) rfl (Nat.le_of_ble_eq_true rfl) (fun Γ X nt Q hin => ?_)
  have gm := FM.refl h
  refine V_aload_n (pc := 0) X 0 dX9_centreChar_0 rfl ?_
  refine V_iconst (pc := 1) (v := 0) X dX9_centreChar_1 (by decide) ?_
  show V _ _ _ _ _ _ (Value.int (nI 0) :: _)
  refine M_put (pc := 2) X mp (i := 900) (by unfold isS; decide) fl_X9_92 dX9_centreChar_2 (fun h2 mp2 fm2 => ?_)
  have gm2 := gm.seq fm2
  have rm2 := rm.th w hH (nI 0)
  refine V_iload_n (pc := 5) X 1 dX9_centreChar_5 rfl ?_
  refine V_iconst (pc := 6) (v := 0) X dX9_centreChar_6 (by decide) ?_
  show V _ _ _ _ _ _ (Value.int (nI 0) :: _)
  refine V_aload_n (pc := 7) X 0 dX9_centreChar_7 rfl ?_
  refine V_get (pc := 8) X fl_X9_34 dX9_centreChar_8 mp2.k (mp2.f 909) ?_
  refine V_iconst (pc := 11) (v := 2) X dX9_centreChar_11 (by decide) ?_
  show V _ _ _ _ _ _ (Value.int (nI 2) :: _)
  refine M_ald (pc := 12) X mp2 ⟨by unfold isA; decide, by decide⟩ (by show _ < 3; omega) dX9_centreChar_12 ?_
  rw [rm2.2.1.2.1]
  have hX := rm2.2.1.1
  refine V_iconst (pc := 13) (v := 1) X dX9_centreChar_13 (by decide) ?_
  refine V_isub (pc := 14) X dX9_centreChar_14 ?_
  refine V_callS (pc := 15) X _ m_isBetween cw_X9_96 (Q.room (by decide) (by decide)) rfl (Nat.le_of_ble_eq_true rfl) rfl (by omega) dX9_centreChar_15 (fun _ _ z => z.elim) ?_
  rintro v15 h15 ⟨rfl, e15⟩
  rw [e15]
  simp only [Option.toList_some, List.cons_append, List.nil_append]
  refine V_if_eq (pc := 18) X 30 dX9_centreChar_18 (by decide) (fun c18 => ?_) (fun c18 => ?_)
  · have kp : ¬ (¬ p < 0 ∧ p < nI (zC s).length) := fun y => by rw [if_pos (show nI 0 ≤ p ∧ p ≤ nI (zC s).length - 1 from (btw_iff (by omega)).mpr y)] at c18; exact absurd c18 (by decide)
    refine V_aload_n (pc := 30) X 0 dX9_centreChar_30 rfl ?_
    refine V_iconst (pc := 31) (v := 1) X dX9_centreChar_31 (by decide) ?_
    show V _ _ _ _ _ _ (Value.int (nI 1) :: _)
    refine V_callV (pc := 32) X clk9 (by decide) mp2.k _ (m_fails mp2 (c := nI 1)) cw_X9_144 (Q.room (by decide) (by decide)) rfl (Nat.le_of_ble_eq_true rfl) rfl (by omega) dX9_centreChar_32 (fun _ _ z => z.elim) ?_
    rintro v32 h32 ⟨rfl, mp9, fm9⟩
    simp only [Option.toList_some, List.cons_append, List.nil_append]
    refine V_i2c (pc := 35) X dX9_centreChar_35 ?_
    refine V_iret (pc := 36) X Q rfl (chr_any _) dX9_centreChar_36 ?_
    first
    | exact Or.inl ⟨i, y, rfl, hy, by rw [i2c_ok hc], _, mp2, gm2, rm2, fu_s⟩
    | exact Or.inr ⟨kp, ⟨_, rfl⟩, _, mp9, gm2.seq fm9, rm2.th w hH (nI 1), fu_s⟩
  · have kp : ¬ p < 0 ∧ p < nI (zC s).length := by
      by_cases y : nI 0 ≤ p ∧ p ≤ nI (zC s).length - 1
      · exact (btw_iff (by omega)).mp y
      · rw [if_neg y] at c18; exact absurd rfl c18
    obtain ⟨i, hi, rfl⟩ := nI_of kp.1
    have hil := (nI_ltI (by omega) (by omega)).mp kp.2
    obtain ⟨y, hy⟩ : ∃ y, (zC s)[i]? = some y := ⟨_, List.getElem?_eq_getElem hil⟩
    have hc := hT y (w.2.1.2 y (List.mem_of_getElem? hy))
    refine V_aload_n (pc := 21) X 0 dX9_centreChar_21 rfl ?_
    refine V_iconst (pc := 22) (v := 2) X dX9_centreChar_22 (by decide) ?_
    show V _ _ _ _ _ _ (Value.int (nI 2) :: _)
    refine V_iload_n (pc := 23) X 1 dX9_centreChar_23 rfl ?_
    refine V_callV (pc := 24) X clk9 (by decide) mp2.k _ (m_codeAt mp2 (t := 2) (by decide) rm2.2.1 hy) cw_X9_157 (Q.room (by decide) (by decide)) rfl (Nat.le_of_ble_eq_true rfl) rfl (by omega) dX9_centreChar_24 (fun _ _ z => z.elim) ?_
    rintro v24 h24 ⟨rfl, e24⟩
    rw [e24]
    simp only [Option.toList_some, List.cons_append, List.nil_append]
    refine V_goto (pc := 27) X 35 dX9_centreChar_27 (by decide) ?_
    refine V_i2c (pc := 35) X dX9_centreChar_35 ?_
    refine V_iret (pc := 36) X Q rfl (chr_any _) dX9_centreChar_36 ?_
    first
    | exact Or.inl ⟨i, y, rfl, hy, by rw [i2c_ok hc], _, mp2, gm2, rm2, fu_s⟩
    | exact Or.inr ⟨kp, ⟨_, rfl⟩, _, mp9, gm2.seq fm9, rm2.th w hH (nI 1), fu_s⟩
