/-! THE MODEL: WRITING -/
theorem iEq.idle {e : Nat} {x : EQ} {u H : List MG} {L : List Nat} {M : Nat} (h : iEq e x u H L M) (es : eS x = []) : eW x = [] ∧ u = [] := by
  rcases h.2.2.2.2 with a | ⟨m, a1, a2, a3, a4, a5, a6, a7, a8, a9⟩ | ⟨a1, a2, -⟩
  · exact ⟨a.2.1, a.2.2.1⟩
  · have : (entR m.2.2 ((H.take (eR x)).drop m.2.1)).length = 0 := by rw [← a9, es]; rfl
    rw [entR_len] at this
    exact absurd (List.length_eq_zero_iff.mp this) a4
  · exact absurd es a2
theorem y_makes {E : EV} {h : AH} {q : Nat} {A : Nat → Nat} {F : MS'} (mp : MP h q A F) {tb : Nat → Nat × Nat} {s : SQ} (rm : RM tb F s) (hI : INV s) {e a p l k : Nat} {f : Bool} (he : e ≤ 1) (a0 : a ≠ 0) (v : vO (a, p, l, e) (eX (zE s e)).length) (hM : zM s < 200) (hl : (apO (a, p, l, e) (eX (zE s e))).length ≤ 200) (hy : a = 1 → l = zM s ∧ (tb l).2 = e) (hk : (tb l).1 = k) : Ct E yX9_makes cX9_makes 8 none 3 0 [.ref q, .int (nI e), .int (nI a), .int (nI p), .int (nI k), .int (if f then 1 else 0)] h (fun v h1 => v = none ∧ ∃ F', MP h1 q A F' ∧ FM h h1 ∧ RM tb F' (zsE (doM s e (a, p, l, e)) e (mkK (zE s e) (a, p, l, e) f)) ∧ F' 900 0 = F 900 0) noX := by
  have w := hI.ws
  have hi := hI.1.1 e he
  have c1 : (eW (zE s e)).length ≤ zM s := by
    have := hI.1.2.2.1
    unfold cnt at this
    rcases (show e = 0 ∨ e = 1 by omega) with rfl | rfl <;> omega
  have c2 := hi.2.2.2.1
  subst hk
  refine (m_makes (o := (a, p, l, e)) (f := f) mp he (rm.1 e he).1 rm.2.2.2 hM (w.1 e he).1.2.1.1 (by omega) (by omega) (fun y => (hi.idle y).1) a0 rfl v hl hy hi.2.1.2.2.2.2.2.1).mono (fun v h1 ⟨v0, F', b1, b2, b3, b4, b5, b6⟩ => ⟨v0, F', b1, b2, rm.mk' w hI.hH he (fun y => (hi.idle y).2) b3 b4 b5 b6, ?_⟩) (fun _ _ y => y)
  by_cases y : eS (zE s e) = []
  · exact (b6 y).1 900 0 (by unfold rgM rgE rgU; omega)
  · exact b5 y 900 0 (by unfold rgM rgE; omega)
theorem y_insert {E : EV} {h : AH} {q : Nat} {A : Nat → Nat} {F : MS'} {s : SQ} (mp : MP h q A F) (rm : RM (zT s) F s) (hI : INV s) {x p d : Int32} : Ct E yX9_insert cX9_insert 4 (some .int) 5 0 [.ref q, .int x, .int p, .int d] h (fun v h1 => (∃ e i c : Nat, e ≤ 1 ∧ x = nI e ∧ p = nI i ∧ d = nI c ∧ i ≤ (eX (zE s e)).length ∧ 32 ≤ c ∧ c ≤ 126 ∧ (eX (zE s e)).length < 60 ∧ zM s < 200 ∧ v = some (.int (nI (eX (zE (sIns s e i c) e)).length)) ∧ MR h h1 q A (sIns s e i c) 0) ∨ (¬ (x = 0 ∨ x = 1) ∧ (∃ u : Int32, v = some (.int u)) ∧ MR h h1 q A s 1) ∨ (∃ e : Nat, e ≤ 1 ∧ x = nI e ∧ ¬ ((¬ p < 0 ∧ p ≤ nI (eX (zE s e)).length) ∧ (¬ d < 32 ∧ d ≤ 126)) ∧ (∃ u : Int32, v = some (.int u)) ∧ MR h h1 q A s 2) ∨ (∃ e : Nat, e ≤ 1 ∧ x = nI e ∧ (¬ p < 0 ∧ p ≤ nI (eX (zE s e)).length) ∧ (¬ d < 32 ∧ d ≤ 126) ∧ ¬ ((eX (zE s e)).length < 60 ∧ zM s < 200) ∧ (∃ u : Int32, v = some (.int u)) ∧ MR h h1 q A s 3)) noX := by
  refine Ct_of RX9 (by decide +kernel) rfl (Nat.le_of_ble_eq_true rfl) (fun Γ X nt Q hin => ?_)
  have gm := FM.refl h
  have w := hI.ws
  have hH := hI.hH
  refine V_aload_n (pc := 0) X 0 dX9_insert_0 rfl ?_
  refine V_iconst (pc := 1) (v := 0) X dX9_insert_1 (by decide) ?_
  show V _ _ _ _ _ _ (Value.int (nI 0) :: _)
  refine M_put (pc := 2) X mp (i := 900) (by unfold isS; decide) fl_X9_92 dX9_insert_2 (fun h2 mp2 fm2 => ?_)
  have gm2 := gm.seq fm2
  have rm2 := rm.th w hH (nI 0)
  refine V_iload_n (pc := 5) X 1 dX9_insert_5 rfl ?_
  refine V_callS (pc := 6) X _ m_isEnd cw_X9_140 (Q.room (by decide) (by decide)) rfl (Nat.le_of_ble_eq_true rfl) rfl (by omega) dX9_insert_6 (fun _ _ z => z.elim) ?_
  rintro v6 h6 ⟨rfl, e6⟩
  rw [e6]
  simp only [Option.toList_some, List.cons_append, List.nil_append]
  refine V_if_ne (pc := 9) X 18 dX9_insert_9 (by decide) (fun c9 => ?_) (fun c9 => ?_)
  · have ke : x = 0 ∨ x = 1 := by
      by_cases y : 0 ≤ x ∧ x ≤ 1
      · exact end_iff.mp y
      · rw [if_neg y] at c9; exact absurd rfl c9
    obtain ⟨e, he, rfl⟩ := eq01 ke
    have re := (rm2.1 e he).1
    have ru := (rm2.1 e he).2
    have hx := (w.1 e he).1.1.1
    have hX : (eX (zE s e)).length ≤ 200 := (w.1 e he).1.1.1
    refine V_iload_n (pc := 18) X 2 dX9_insert_18 rfl ?_
    refine V_iconst (pc := 19) (v := 0) X dX9_insert_19 (by decide) ?_
    refine V_aload_n (pc := 20) X 0 dX9_insert_20 rfl ?_
    refine V_get (pc := 21) X fl_X9_34 dX9_insert_21 mp2.k (mp2.f 909) ?_
    refine V_iload_n (pc := 24) X 1 dX9_insert_24 rfl ?_
    refine M_ald (pc := 25) X mp2 ⟨by unfold isA; decide, by decide⟩ (by show _ < 3; omega) dX9_insert_25 ?_
    rw [re.2.2.2.2.1.2.1]
    refine V_callS (pc := 26) X _ m_isBetween cw_X9_96 (Q.room (by decide) (by decide)) rfl (Nat.le_of_ble_eq_true rfl) rfl (by omega) dX9_insert_26 (fun _ _ z => z.elim) ?_
    rintro v26 h26 ⟨rfl, e26⟩
    rw [e26]
    simp only [Option.toList_some, List.cons_append, List.nil_append]
    refine V_if_eq (pc := 29) X 39 dX9_insert_29 (by decide) (fun c29 => ?_) (fun c29 => ?_)
    · have kpd : ¬ ((¬ p < 0 ∧ p ≤ nI (eX (zE s e)).length) ∧ (¬ d < 32 ∧ d ≤ 126)) := fun y => by rw [if_pos (show 0 ≤ p ∧ p ≤ nI (eX (zE s e)).length from ⟨Int32.not_lt.mp y.1.1, y.1.2⟩)] at c29; exact absurd c29 (by decide)
      refine V_aload_n (pc := 39) X 0 dX9_insert_39 rfl ?_
      refine V_iconst (pc := 40) (v := 2) X dX9_insert_40 (by decide) ?_
      show V _ _ _ _ _ _ (Value.int (nI 2) :: _)
      refine V_callV (pc := 41) X clk9 (by decide) mp2.k _ (m_fails mp2 (c := nI 2)) cw_X9_144 (Q.room (by decide) (by decide)) rfl (Nat.le_of_ble_eq_true rfl) rfl (by omega) dX9_insert_41 (fun _ _ z => z.elim) ?_
      rintro v41 h41 ⟨rfl, mp9, fm9⟩
      simp only [Option.toList_some, List.cons_append, List.nil_append]
      refine V_iret (pc := 44) X Q rfl rfl dX9_insert_44 ?_
      exact Or.inr (Or.inr (Or.inl ⟨e, he, rfl, kpd, ⟨_, rfl⟩, _, mp9, gm2.seq fm9, rm2.th w hH (nI 2), fu_s⟩))
    · have kp : (¬ p < 0 ∧ p ≤ nI (eX (zE s e)).length) := by
        by_cases y : 0 ≤ p ∧ p ≤ nI (eX (zE s e)).length
        · exact ⟨Int32.not_lt.mpr y.1, y.2⟩
        · rw [if_neg y] at c29; exact absurd rfl c29
      obtain ⟨i, hi, rfl⟩ := nI_of kp.1
      have hil : i ≤ (eX (zE s e)).length := (nI_leI (by omega) (by omega)).mp kp.2
      refine V_iload_n (pc := 32) X 3 dX9_insert_32 rfl ?_
      refine V_callS (pc := 33) X _ m_isCharacter cw_X9_147 (Q.room (by decide) (by decide)) rfl (Nat.le_of_ble_eq_true rfl) rfl (by omega) dX9_insert_33 (fun _ _ z => z.elim) ?_
      rintro v33 h33 ⟨rfl, e33⟩
      rw [e33]
      simp only [Option.toList_some, List.cons_append, List.nil_append]
      refine V_if_ne (pc := 36) X 45 dX9_insert_36 (by decide) (fun c36 => ?_) (fun c36 => ?_)
      · have kd : (¬ d < 32 ∧ d ≤ 126) := by
          by_cases y : 32 ≤ d ∧ d ≤ 126
          · exact ⟨Int32.not_lt.mpr y.1, y.2⟩
          · rw [if_neg y] at c36; exact absurd rfl c36
        have d1 : ¬ d < 32 := kd.1
        have d2 : d ≤ 126 := kd.2
        have d0 : ¬ d < 0 := fun y => d1 (Int32.lt_trans y (by decide))
        obtain ⟨c, hc, rfl⟩ := nI_of d0
        have hc1 : c ≤ 126 := (nI_leI (b := 126) (by omega) (by decide)).mp d2
        have hc2 : 32 ≤ c := by
          rcases Nat.lt_or_ge c 32 with y | y
          · exact absurd (nI_lt (b := 32) y (by decide)) d1
          · exact y
        refine V_aload_n (pc := 45) X 0 dX9_insert_45 rfl ?_
        refine V_iload_n (pc := 46) X 1 dX9_insert_46 rfl ?_
        refine V_callV (pc := 47) X clk9 (by decide) mp2.k _ (m_isFull mp2 he re.2.2.2.2.1.2.1 rm2.2.2.2 hx w.2.2.2.1) cw_X9_150 (Q.room (by decide) (by decide)) rfl (Nat.le_of_ble_eq_true rfl) rfl (by omega) dX9_insert_47 (fun _ _ z => z.elim) ?_
        rintro v47 h47 ⟨rfl, e47⟩
        rw [e47]
        simp only [Option.toList_some, List.cons_append, List.nil_append]
        refine V_if_eq (pc := 50) X 59 dX9_insert_50 (by decide) (fun c50 => ?_) (fun c50 => ?_)
        · have kf : ((eX (zE s e)).length < 60 ∧ zM s < 200) := by
            by_cases y : ((eX (zE s e)).length < 60 ∧ zM s < 200)
            · exact y
            · rw [if_neg y] at c50; exact absurd c50 (by decide)
          have rm3 : RM (zu (zT s) (zM s) (c, e)) (fu F 900 0 (nI 0)) s := rm2.otb (fun y hy => zu_n (by have := w.2.2.2.2 y hy; omega)) w
          have hv : vO (1, i, zM s, e) (eX (zE s e)).length := Or.inr (Or.inl ⟨rfl, hil⟩)
          have hl2 : (apO (1, i, zM s, e) (eX (zE s e))).length ≤ 200 := by rw [al_1 rfl (show i ≤ _ from hil)]; have := kf.1; omega
          refine V_aload_n (pc := 59) X 0 dX9_insert_59 rfl ?_
          refine V_iload_n (pc := 60) X 1 dX9_insert_60 rfl ?_
          refine V_iconst (pc := 61) (v := 1) X dX9_insert_61 (by decide) ?_
          show V _ _ _ _ _ _ (Value.int (nI 1) :: _)
          refine V_iload_n (pc := 62) X 2 dX9_insert_62 rfl ?_
          refine V_iload_n (pc := 63) X 3 dX9_insert_63 rfl ?_
          refine V_iconst (pc := 64) (v := 1) X dX9_insert_64 (by decide) ?_
          show V _ _ _ _ _ _ (Value.int (nI 1) :: _)
          refine V_callV (pc := 65) X clk9 (by decide) mp2.k _ (y_makes (a := 1) (p := i) (l := zM s) (k := c) (f := true) mp2 rm3 hI he (by decide) hv kf.2 hl2 (fun _ => ⟨rfl, by rw [zu_s]⟩) (by rw [zu_s])) cw_X9_153 (Q.room (by decide) (by decide)) rfl (Nat.le_of_ble_eq_true rfl) rfl (by omega) dX9_insert_65 (fun _ _ z => z.elim) ?_
          rintro v65 h65 ⟨rfl, F5, mp5, gm5, rm5, t5⟩
          simp only [Option.toList_none, List.nil_append]
          have rm6 : RM (zT (sIns s e i c)) F5 (sIns s e i c) := by rw [ins_mk]; exact rm5
          have re6 := (rm6.1 e he).1
          refine V_aload_n (pc := 68) X 0 dX9_insert_68 rfl ?_
          refine V_get (pc := 69) X fl_X9_34 dX9_insert_69 mp5.k (mp5.f 909) ?_
          refine V_iload_n (pc := 72) X 1 dX9_insert_72 rfl ?_
          refine M_ald (pc := 73) X mp5 ⟨by unfold isA; decide, by decide⟩ (by show _ < 3; omega) dX9_insert_73 ?_
          rw [re6.2.2.2.2.1.2.1]
          refine V_iret (pc := 74) X Q rfl rfl dX9_insert_74 ?_
          exact Or.inl ⟨e, i, c, he, rfl, rfl, rfl, hil, hc2, hc1, kf.1, kf.2, rfl, F5, mp5, gm2.seq gm5, rm6, t5.trans fu_s⟩
        · have kf : ¬ ((eX (zE s e)).length < 60 ∧ zM s < 200) := fun y => by rw [if_pos y] at c50; exact absurd rfl c50
          refine V_aload_n (pc := 53) X 0 dX9_insert_53 rfl ?_
          refine V_iconst (pc := 54) (v := 3) X dX9_insert_54 (by decide) ?_
          show V _ _ _ _ _ _ (Value.int (nI 3) :: _)
          refine V_callV (pc := 55) X clk9 (by decide) mp2.k _ (m_fails mp2 (c := nI 3)) cw_X9_144 (Q.room (by decide) (by decide)) rfl (Nat.le_of_ble_eq_true rfl) rfl (by omega) dX9_insert_55 (fun _ _ z => z.elim) ?_
          rintro v55 h55 ⟨rfl, mp9, fm9⟩
          simp only [Option.toList_some, List.cons_append, List.nil_append]
          refine V_iret (pc := 58) X Q rfl rfl dX9_insert_58 ?_
          exact Or.inr (Or.inr (Or.inr ⟨e, he, rfl, kp, kd, kf, ⟨_, rfl⟩, _, mp9, gm2.seq fm9, rm2.th w hH (nI 3), fu_s⟩))
      · have kd : ¬ (¬ d < 32 ∧ d ≤ 126) := fun y => by rw [if_pos (show 32 ≤ d ∧ d ≤ 126 from ⟨Int32.not_lt.mp y.1, y.2⟩)] at c36; exact absurd c36 (by decide)
        have kpd : ¬ ((¬ nI i < 0 ∧ nI i ≤ nI (eX (zE s e)).length) ∧ (¬ d < 32 ∧ d ≤ 126)) := fun y => kd y.2
        refine V_aload_n (pc := 39) X 0 dX9_insert_39 rfl ?_
        refine V_iconst (pc := 40) (v := 2) X dX9_insert_40 (by decide) ?_
        show V _ _ _ _ _ _ (Value.int (nI 2) :: _)
        refine V_callV (pc := 41) X clk9 (by decide) mp2.k _ (m_fails mp2 (c := nI 2)) cw_X9_144 (Q.room (by decide) (by decide)) rfl (Nat.le_of_ble_eq_true rfl) rfl (by omega) dX9_insert_41 (fun _ _ z => z.elim) ?_
        rintro v41 h41 ⟨rfl, mp9, fm9⟩
        simp only [Option.toList_some, List.cons_append, List.nil_append]
        refine V_iret (pc := 44) X Q rfl rfl dX9_insert_44 ?_
        exact Or.inr (Or.inr (Or.inl ⟨e, he, rfl, kpd, ⟨_, rfl⟩, _, mp9, gm2.seq fm9, rm2.th w hH (nI 2), fu_s⟩))
  · have ke : ¬ (x = 0 ∨ x = 1) := fun y => by rw [if_pos (end_iff.mpr y)] at c9; exact absurd c9 (by decide)
    refine V_aload_n (pc := 12) X 0 dX9_insert_12 rfl ?_
    refine V_iconst (pc := 13) (v := 1) X dX9_insert_13 (by decide) ?_
    show V _ _ _ _ _ _ (Value.int (nI 1) :: _)
    refine V_callV (pc := 14) X clk9 (by decide) mp2.k _ (m_fails mp2 (c := nI 1)) cw_X9_144 (Q.room (by decide) (by decide)) rfl (Nat.le_of_ble_eq_true rfl) rfl (by omega) dX9_insert_14 (fun _ _ z => z.elim) ?_
    rintro v23 h23 ⟨rfl, mp9, fm9⟩
    simp only [Option.toList_some, List.cons_append, List.nil_append]
    refine V_iret (pc := 17) X Q rfl rfl dX9_insert_17 ?_
    exact Or.inr (Or.inl ⟨ke, ⟨_, rfl⟩, _, mp9, gm2.seq fm9, rm2.th w hH (nI 1), fu_s⟩)
theorem y_type {E : EV} {h : AH} {q : Nat} {A : Nat → Nat} {F : MS'} {s : SQ} (mp : MP h q A F) (rm : RM (zT s) F s) (hI : INV s) {x d : Int32} : Ct E yX9_type cX9_type 3 (some .int) 5 0 [.ref q, .int x, .int d] h (fun v h1 => (∃ e c : Nat, e ≤ 1 ∧ x = nI e ∧ d = nI c ∧ 32 ≤ c ∧ c ≤ 126 ∧ (eX (zE s e)).length < 60 ∧ zM s < 200 ∧ v = some (.int (nI (eC (zE (sIns s e (eC (zE s e)) c) e)))) ∧ MR h h1 q A (sIns s e (eC (zE s e)) c) 0) ∨ (¬ (x = 0 ∨ x = 1) ∧ (∃ u : Int32, v = some (.int u)) ∧ MR h h1 q A s 1) ∨ (∃ e : Nat, e ≤ 1 ∧ x = nI e ∧ ¬ (¬ d < 32 ∧ d ≤ 126) ∧ (∃ u : Int32, v = some (.int u)) ∧ MR h h1 q A s 2) ∨ (∃ e : Nat, e ≤ 1 ∧ x = nI e ∧ (¬ d < 32 ∧ d ≤ 126) ∧ ¬ ((eX (zE s e)).length < 60 ∧ zM s < 200) ∧ (∃ u : Int32, v = some (.int u)) ∧ MR h h1 q A s 3)) noX := by
  refine Ct_of RX9 (by decide +kernel) rfl (Nat.le_of_ble_eq_true rfl) (fun Γ X nt Q hin => ?_)
  have gm := FM.refl h
  have w := hI.ws
  have hH := hI.hH
  refine V_aload_n (pc := 0) X 0 dX9_type_0 rfl ?_
  refine V_iconst (pc := 1) (v := 0) X dX9_type_1 (by decide) ?_
  show V _ _ _ _ _ _ (Value.int (nI 0) :: _)
  refine M_put (pc := 2) X mp (i := 900) (by unfold isS; decide) fl_X9_92 dX9_type_2 (fun h2 mp2 fm2 => ?_)
  have gm2 := gm.seq fm2
  have rm2 := rm.th w hH (nI 0)
  refine V_iload_n (pc := 5) X 1 dX9_type_5 rfl ?_
  refine V_callS (pc := 6) X _ m_isEnd cw_X9_140 (Q.room (by decide) (by decide)) rfl (Nat.le_of_ble_eq_true rfl) rfl (by omega) dX9_type_6 (fun _ _ z => z.elim) ?_
  rintro v6 h6 ⟨rfl, e6⟩
  rw [e6]
  simp only [Option.toList_some, List.cons_append, List.nil_append]
  refine V_if_ne (pc := 9) X 18 dX9_type_9 (by decide) (fun c9 => ?_) (fun c9 => ?_)
  · have ke : x = 0 ∨ x = 1 := by
      by_cases y : 0 ≤ x ∧ x ≤ 1
      · exact end_iff.mp y
      · rw [if_neg y] at c9; exact absurd rfl c9
    obtain ⟨e, he, rfl⟩ := eq01 ke
    have re := (rm2.1 e he).1
    have ru := (rm2.1 e he).2
    have hx := (w.1 e he).1.1.1
    have hX : (eX (zE s e)).length ≤ 200 := (w.1 e he).1.1.1
    refine V_iload_n (pc := 18) X 2 dX9_type_18 rfl ?_
    refine V_callS (pc := 19) X _ m_isCharacter cw_X9_147 (Q.room (by decide) (by decide)) rfl (Nat.le_of_ble_eq_true rfl) rfl (by omega) dX9_type_19 (fun _ _ z => z.elim) ?_
    rintro v19 h19 ⟨rfl, e19⟩
    rw [e19]
    simp only [Option.toList_some, List.cons_append, List.nil_append]
    refine V_if_ne (pc := 22) X 31 dX9_type_22 (by decide) (fun c22 => ?_) (fun c22 => ?_)
    · have kd : (¬ d < 32 ∧ d ≤ 126) := by
        by_cases y : 32 ≤ d ∧ d ≤ 126
        · exact ⟨Int32.not_lt.mpr y.1, y.2⟩
        · rw [if_neg y] at c22; exact absurd rfl c22
      have d1 : ¬ d < 32 := kd.1
      have d2 : d ≤ 126 := kd.2
      have d0 : ¬ d < 0 := fun y => d1 (Int32.lt_trans y (by decide))
      obtain ⟨c, hc, rfl⟩ := nI_of d0
      have hc1 : c ≤ 126 := (nI_leI (b := 126) (by omega) (by decide)).mp d2
      have hc2 : 32 ≤ c := by
        rcases Nat.lt_or_ge c 32 with y | y
        · exact absurd (nI_lt (b := 32) y (by decide)) d1
        · exact y
      refine V_aload_n (pc := 31) X 0 dX9_type_31 rfl ?_
      refine V_iload_n (pc := 32) X 1 dX9_type_32 rfl ?_
      refine V_callV (pc := 33) X clk9 (by decide) mp2.k _ (m_isFull mp2 he re.2.2.2.2.1.2.1 rm2.2.2.2 hx w.2.2.2.1) cw_X9_150 (Q.room (by decide) (by decide)) rfl (Nat.le_of_ble_eq_true rfl) rfl (by omega) dX9_type_33 (fun _ _ z => z.elim) ?_
      rintro v33 h33 ⟨rfl, e33⟩
      rw [e33]
      simp only [Option.toList_some, List.cons_append, List.nil_append]
      refine V_if_eq (pc := 36) X 45 dX9_type_36 (by decide) (fun c36 => ?_) (fun c36 => ?_)
      · have kf : ((eX (zE s e)).length < 60 ∧ zM s < 200) := by
          by_cases y : ((eX (zE s e)).length < 60 ∧ zM s < 200)
          · exact y
          · rw [if_neg y] at c36; exact absurd c36 (by decide)
        have hcu := hI.cu e he
        have rm3 : RM (zu (zT s) (zM s) (c, e)) (fu F 900 0 (nI 0)) s := rm2.otb (fun y hy => zu_n (by have := w.2.2.2.2 y hy; omega)) w
        have hv : vO (1, (eC (zE s e)), zM s, e) (eX (zE s e)).length := Or.inr (Or.inl ⟨rfl, hcu⟩)
        have hl2 : (apO (1, (eC (zE s e)), zM s, e) (eX (zE s e))).length ≤ 200 := by rw [al_1 rfl (show (eC (zE s e)) ≤ _ from hcu)]; have := kf.1; omega
        refine V_aload_n (pc := 45) X 0 dX9_type_45 rfl ?_
        refine V_iload_n (pc := 46) X 1 dX9_type_46 rfl ?_
        refine V_iconst (pc := 47) (v := 1) X dX9_type_47 (by decide) ?_
        show V _ _ _ _ _ _ (Value.int (nI 1) :: _)
        refine V_aload_n (pc := 48) X 0 dX9_type_48 rfl ?_
        refine V_get (pc := 49) X fl_X9_46 dX9_type_49 mp2.k (mp2.f 913) ?_
        refine V_iload_n (pc := 52) X 1 dX9_type_52 rfl ?_
        refine M_ald (pc := 53) X mp2 ⟨by unfold isA; decide, by decide⟩ (by show _ < 2; omega) dX9_type_53 ?_
        rw [re.2.2.2.2.2.1]
        refine V_iload_n (pc := 54) X 2 dX9_type_54 rfl ?_
        refine V_iconst (pc := 55) (v := 1) X dX9_type_55 (by decide) ?_
        show V _ _ _ _ _ _ (Value.int (nI 1) :: _)
        refine V_callV (pc := 56) X clk9 (by decide) mp2.k _ (y_makes (a := 1) (p := (eC (zE s e))) (l := zM s) (k := c) (f := true) mp2 rm3 hI he (by decide) hv kf.2 hl2 (fun _ => ⟨rfl, by rw [zu_s]⟩) (by rw [zu_s])) cw_X9_153 (Q.room (by decide) (by decide)) rfl (Nat.le_of_ble_eq_true rfl) rfl (by omega) dX9_type_56 (fun _ _ z => z.elim) ?_
        rintro v56 h56 ⟨rfl, F5, mp5, gm5, rm5, t5⟩
        simp only [Option.toList_none, List.nil_append]
        have rm6 : RM (zT (sIns s e (eC (zE s e)) c)) F5 (sIns s e (eC (zE s e)) c) := by rw [ins_mk]; exact rm5
        have re6 := (rm6.1 e he).1
        refine V_aload_n (pc := 59) X 0 dX9_type_59 rfl ?_
        refine V_get (pc := 60) X fl_X9_46 dX9_type_60 mp5.k (mp5.f 913) ?_
        refine V_iload_n (pc := 63) X 1 dX9_type_63 rfl ?_
        refine M_ald (pc := 64) X mp5 ⟨by unfold isA; decide, by decide⟩ (by show _ < 2; omega) dX9_type_64 ?_
        rw [re6.2.2.2.2.2.1]
        refine V_iret (pc := 65) X Q rfl rfl dX9_type_65 ?_
        exact Or.inl ⟨e, c, he, rfl, rfl, hc2, hc1, kf.1, kf.2, rfl, F5, mp5, gm2.seq gm5, rm6, t5.trans fu_s⟩
      · have kf : ¬ ((eX (zE s e)).length < 60 ∧ zM s < 200) := fun y => by rw [if_pos y] at c36; exact absurd rfl c36
        refine V_aload_n (pc := 39) X 0 dX9_type_39 rfl ?_
        refine V_iconst (pc := 40) (v := 3) X dX9_type_40 (by decide) ?_
        show V _ _ _ _ _ _ (Value.int (nI 3) :: _)
        refine V_callV (pc := 41) X clk9 (by decide) mp2.k _ (m_fails mp2 (c := nI 3)) cw_X9_144 (Q.room (by decide) (by decide)) rfl (Nat.le_of_ble_eq_true rfl) rfl (by omega) dX9_type_41 (fun _ _ z => z.elim) ?_
        rintro v41 h41 ⟨rfl, mp9, fm9⟩
        simp only [Option.toList_some, List.cons_append, List.nil_append]
        refine V_iret (pc := 44) X Q rfl rfl dX9_type_44 ?_
        exact Or.inr (Or.inr (Or.inr ⟨e, he, rfl, kd, kf, ⟨_, rfl⟩, _, mp9, gm2.seq fm9, rm2.th w hH (nI 3), fu_s⟩))
    · have kd : ¬ (¬ d < 32 ∧ d ≤ 126) := fun y => by rw [if_pos (show 32 ≤ d ∧ d ≤ 126 from ⟨Int32.not_lt.mp y.1, y.2⟩)] at c22; exact absurd c22 (by decide)
      refine V_aload_n (pc := 25) X 0 dX9_type_25 rfl ?_
      refine V_iconst (pc := 26) (v := 2) X dX9_type_26 (by decide) ?_
      show V _ _ _ _ _ _ (Value.int (nI 2) :: _)
      refine V_callV (pc := 27) X clk9 (by decide) mp2.k _ (m_fails mp2 (c := nI 2)) cw_X9_144 (Q.room (by decide) (by decide)) rfl (Nat.le_of_ble_eq_true rfl) rfl (by omega) dX9_type_27 (fun _ _ z => z.elim) ?_
      rintro v27 h27 ⟨rfl, mp9, fm9⟩
      simp only [Option.toList_some, List.cons_append, List.nil_append]
      refine V_iret (pc := 30) X Q rfl rfl dX9_type_30 ?_
      exact Or.inr (Or.inr (Or.inl ⟨e, he, rfl, kd, ⟨_, rfl⟩, _, mp9, gm2.seq fm9, rm2.th w hH (nI 2), fu_s⟩))
  · have ke : ¬ (x = 0 ∨ x = 1) := fun y => by rw [if_pos (end_iff.mpr y)] at c9; exact absurd c9 (by decide)
    refine V_aload_n (pc := 12) X 0 dX9_type_12 rfl ?_
    refine V_iconst (pc := 13) (v := 1) X dX9_type_13 (by decide) ?_
    show V _ _ _ _ _ _ (Value.int (nI 1) :: _)
    refine V_callV (pc := 14) X clk9 (by decide) mp2.k _ (m_fails mp2 (c := nI 1)) cw_X9_144 (Q.room (by decide) (by decide)) rfl (Nat.le_of_ble_eq_true rfl) rfl (by omega) dX9_type_14 (fun _ _ z => z.elim) ?_
    rintro v23 h23 ⟨rfl, mp9, fm9⟩
    simp only [Option.toList_some, List.cons_append, List.nil_append]
    refine V_iret (pc := 17) X Q rfl rfl dX9_type_17 ?_
    exact Or.inr (Or.inl ⟨ke, ⟨_, rfl⟩, _, mp9, gm2.seq fm9, rm2.th w hH (nI 1), fu_s⟩)
