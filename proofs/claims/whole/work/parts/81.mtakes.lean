/-! THE MODEL: TAKING AWAY, UNDOING -/
theorem RE.dr {tb : Nat → Nat × Nat} {F : MS'} {e n : Nat} {x : EQ} (z : RE tb F e x) (hn : (eK x).length = n + 1) : RE tb (fu F 923 e (nI n)) e (eP x (eK x).dropLast) := by
  obtain ⟨a1, a2, a3, a4, a5, a6, a7, a8, a9, a10, a11⟩ := z
  have f : ∀ a b, a ≠ 923 → fu F 923 e (nI n) a b = F a b := fun a b h => fu_i h
  refine ⟨(f _ _ (by decide)).trans a1, a2.os (fun k _ _ => OS_of (fun i _ _ => f _ _ (by omega))), (f _ _ (by decide)).trans a3, a4.os (fun k _ _ => OS_of (fun i _ _ => f _ _ (by omega))), a5.same (f _ _ (by decide)) (fun a b _ _ _ _ => f _ _ (by omega)), (f _ _ (by decide)).trans a6, (f _ _ (by decide)).trans a7, (f _ _ (by decide)).trans a8, (f _ _ (by decide)).trans a9, fu_s.trans ?_, fun k o hk => ?_⟩
  · show nI n = nI ((eK x).dropLast).length
    rw [List.length_dropLast, hn]; rfl
  · have hk : ((eK x).dropLast)[k]? = some o := hk
    rw [List.dropLast_eq_take, List.getElem?_take] at hk
    have hk2 : (eK x)[k]? = some o := by
      split at hk
      · exact hk
      · exact absurd hk (by simp)
    obtain ⟨b1, ⟨pl, b2, b3, b4⟩, b5, b6⟩ := a11 k o hk2
    exact ⟨(f _ _ (by decide)).trans b1, ⟨pl, (f _ _ (by decide)).trans b2, b3, b4⟩, (f _ _ (by decide)).trans b5, fun u => (f _ _ (by decide)).trans (b6 u)⟩
theorem RM.dr {tb : Nat → Nat × Nat} {F : MS'} {s : SQ} (z : RM tb F s) (w : WS' s) (hH : (hop (zH s)).length ≤ 200) {e n : Nat} (he : e ≤ 1) (hn : (eK (zE s e)).length = n + 1) : RM tb (fu F 923 e (nI n)) (drpK s e) := by
  obtain ⟨o1, o2, o3⟩ := z.oth w hH he (F' := fu F 923 e (nI n)) (S := fun a b => a = 923 ∧ b = e) (fun a b h => if_neg h) (fun a b h => Or.inl (by obtain ⟨rfl, rfl⟩ := h; unfold rgE; omega))
  refine ⟨fun i hi => ?_, o2, o3, (fu_i (by decide)).trans z.2.2.2⟩
  have e1 : zE (drpK s e) i = zu s.1 e (eP (zE s e) (eK (zE s e)).dropLast) i := rfl
  rw [e1]
  by_cases y : i = e
  · subst y
    rw [zu_s]
    refine ⟨(z.1 i hi).1.dr hn, (z.1 i hi).2.ke (S := fun a b => a = 923 ∧ b = i) (fun a b h => if_neg h) (fun a b h u => ?_) (fun m hm => ((w.1 i hi).2.2.1 m hm).2.2.1)⟩
    obtain ⟨rfl, rfl⟩ := u
    unfold rgU at h; omega
  · rw [zu_n y]; exact o1 i hi y
theorem y_delete {E : EV} {h : AH} {q : Nat} {A : Nat → Nat} {F : MS'} {s : SQ} (mp : MP h q A F) (rm : RM (zT s) F s) (hI : INV s) (hT : ∀ y ∈ zL s, (zT s y).1 < 127) {x p : Int32} : Ct E yX9_delete cX9_delete 4 (some .char) 5 0 [.ref q, .int x, .int p] h (fun v h1 => (∃ e i y : Nat, e ≤ 1 ∧ x = nI e ∧ p = nI i ∧ (eX (zE s e))[i]? = some y ∧ zM s < 200 ∧ v = some (.int (nI (zT s y).1)) ∧ MR h h1 q A (sDel s e i y) 0) ∨ (¬ (x = 0 ∨ x = 1) ∧ (∃ u : Int32, v = some (.int u)) ∧ MR h h1 q A s 1) ∨ (∃ e : Nat, e ≤ 1 ∧ x = nI e ∧ ¬ (¬ p < 0 ∧ p < nI (eX (zE s e)).length) ∧ (∃ u : Int32, v = some (.int u)) ∧ MR h h1 q A s 2) ∨ (∃ e : Nat, e ≤ 1 ∧ x = nI e ∧ (¬ p < 0 ∧ p < nI (eX (zE s e)).length) ∧ ¬ zM s < 200 ∧ (∃ u : Int32, v = some (.int u)) ∧ MR h h1 q A s 3)) noX := by
  refine Ct_of RX9 (by decide +kernel) rfl (Nat.le_of_ble_eq_true rfl) (fun Γ X nt Q hin => ?_)
  have gm := FM.refl h
  have w := hI.ws
  have hH := hI.hH
  refine V_aload_n (pc := 0) X 0 dX9_delete_0 rfl ?_
  refine V_iconst (pc := 1) (v := 0) X dX9_delete_1 (by decide) ?_
  show V _ _ _ _ _ _ (Value.int (nI 0) :: _)
  refine M_put (pc := 2) X mp (i := 900) (by unfold isS; decide) fl_X9_92 dX9_delete_2 (fun h2 mp2 fm2 => ?_)
  have gm2 := gm.seq fm2
  have rm2 := rm.th w hH (nI 0)
  refine V_iload_n (pc := 5) X 1 dX9_delete_5 rfl ?_
  refine V_callS (pc := 6) X _ m_isEnd cw_X9_140 (Q.room (by decide) (by decide)) rfl (Nat.le_of_ble_eq_true rfl) rfl (by omega) dX9_delete_6 (fun _ _ z => z.elim) ?_
  rintro v6 h6 ⟨rfl, e6⟩
  rw [e6]
  simp only [Option.toList_some, List.cons_append, List.nil_append]
  refine V_if_ne (pc := 9) X 19 dX9_delete_9 (by decide) (fun c9 => ?_) (fun c9 => ?_)
  · have ke : x = 0 ∨ x = 1 := by
      by_cases y : 0 ≤ x ∧ x ≤ 1
      · exact end_iff.mp y
      · rw [if_neg y] at c9; exact absurd rfl c9
    obtain ⟨e, he, rfl⟩ := eq01 ke
    have re := (rm2.1 e he).1
    have ru := (rm2.1 e he).2
    have hx := (w.1 e he).1.1.1
    have hX : (eX (zE s e)).length ≤ 200 := (w.1 e he).1.1.1
    refine V_iload_n (pc := 19) X 2 dX9_delete_19 rfl ?_
    refine V_iconst (pc := 20) (v := 0) X dX9_delete_20 (by decide) ?_
    show V _ _ _ _ _ _ (Value.int (nI 0) :: _)
    refine V_aload_n (pc := 21) X 0 dX9_delete_21 rfl ?_
    refine V_get (pc := 22) X fl_X9_34 dX9_delete_22 mp2.k (mp2.f 909) ?_
    refine V_iload_n (pc := 25) X 1 dX9_delete_25 rfl ?_
    refine M_ald (pc := 26) X mp2 ⟨by unfold isA; decide, by decide⟩ (by show _ < 3; omega) dX9_delete_26 ?_
    rw [re.2.2.2.2.1.2.1]
    refine V_iconst (pc := 27) (v := 1) X dX9_delete_27 (by decide) ?_
    refine V_isub (pc := 28) X dX9_delete_28 ?_
    refine V_callS (pc := 29) X _ m_isBetween cw_X9_96 (Q.room (by decide) (by decide)) rfl (Nat.le_of_ble_eq_true rfl) rfl (by omega) dX9_delete_29 (fun _ _ z => z.elim) ?_
    rintro v29 h29 ⟨rfl, e29⟩
    rw [e29]
    simp only [Option.toList_some, List.cons_append, List.nil_append]
    refine V_if_ne (pc := 32) X 42 dX9_delete_32 (by decide) (fun c32 => ?_) (fun c32 => ?_)
    · have kp : (¬ p < 0 ∧ p < nI (eX (zE s e)).length) := by
        by_cases y : nI 0 ≤ p ∧ p ≤ nI (eX (zE s e)).length - 1
        · exact (btw_iff (by omega)).mp y
        · rw [if_neg y] at c32; exact absurd rfl c32
      obtain ⟨i, hi, rfl⟩ := nI_of kp.1
      have hil := (nI_ltI (by omega) (by omega)).mp kp.2
      obtain ⟨y, hy⟩ : ∃ y, (eX (zE s e))[i]? = some y := ⟨_, List.getElem?_eq_getElem hil⟩
      have hc := hT y ((w.1 e he).1.1.2 y (List.mem_of_getElem? hy))
      refine V_aload_n (pc := 42) X 0 dX9_delete_42 rfl ?_
      refine V_get (pc := 43) X fl_X9_125 dX9_delete_43 mp2.k (mp2.s 926) ?_
      rw [rm2.2.2.2]
      refine V_sipush (pc := 46) (v := 200) X dX9_delete_46 (by decide) ?_
      show V _ _ _ _ _ _ (Value.int (nI 200) :: _)
      refine V_icmp_ne (pc := 49) X 59 dX9_delete_49 (by decide) (fun c49 => ?_) (fun c49 => ?_)
      · have kM : zM s < 200 := by
          have h1 : zM s ≠ 200 := fun y => c49 (by rw [y])
          have := w.2.2.2.1
          omega
        refine V_aload_n (pc := 59) X 0 dX9_delete_59 rfl ?_
        refine V_iload_n (pc := 60) X 1 dX9_delete_60 rfl ?_
        refine V_iload_n (pc := 61) X 2 dX9_delete_61 rfl ?_
        refine V_callV (pc := 62) X clk9 (by decide) mp2.k _ (m_codeAt mp2 (by omega) re.2.2.2.2.1 hy) cw_X9_157 (Q.room (by decide) (by decide)) rfl (Nat.le_of_ble_eq_true rfl) rfl (by omega) dX9_delete_62 (fun _ _ z => z.elim) ?_
        rintro v62 h62 ⟨rfl, e62⟩
        rw [e62]
        simp only [Option.toList_some, List.cons_append, List.nil_append]
        refine V_istore_n (pc := 65) X [(3, .int _), (0, .ref _), (1, .int _), (2, .int _)] dX9_delete_65 rfl (by decide) rfl ?_
        have hv : vO (2, i, y, e) (eX (zE s e)).length := Or.inr (Or.inr ⟨rfl, hil⟩)
        have hl2 : (apO (2, i, y, e) (eX (zE s e))).length ≤ 200 := by rw [al_2 rfl (show i < _ from hil)]; omega
        refine V_aload_n (pc := 66) X 1 dX9_delete_66 rfl ?_
        refine V_iload_n (pc := 67) X 2 dX9_delete_67 rfl ?_
        refine V_iconst (pc := 68) (v := 2) X dX9_delete_68 (by decide) ?_
        show V _ _ _ _ _ _ (Value.int (nI 2) :: _)
        refine V_iload_n (pc := 69) X 3 dX9_delete_69 rfl ?_
        refine V_iload_n (pc := 70) X 0 dX9_delete_70 rfl ?_
        refine V_iconst (pc := 71) (v := 1) X dX9_delete_71 (by decide) ?_
        refine V_callV (pc := 72) X clk9 (by decide) mp2.k _ (y_makes (a := 2) (p := i) (l := y) (k := (zT s y).1) (f := true) mp2 rm2 hI he (by decide) hv kM hl2 (fun u => absurd u (by decide)) rfl) cw_X9_153 (Q.room (by decide) (by decide)) rfl (Nat.le_of_ble_eq_true rfl) rfl (by omega) dX9_delete_72 (fun _ _ z => z.elim) ?_
        rintro v72 h72 ⟨rfl, F5, mp5, gm5, rm5, t5⟩
        simp only [Option.toList_none, List.nil_append]
        have rm6 : RM (zT (sDel s e i y)) F5 (sDel s e i y) := by rw [del_mk]; exact rm5
        refine V_iload_n (pc := 75) X 0 dX9_delete_75 rfl ?_
        refine V_i2c (pc := 76) X dX9_delete_76 ?_
        refine V_iret (pc := 77) X Q rfl (chr_any _) dX9_delete_77 ?_
        exact Or.inl ⟨e, i, y, he, rfl, rfl, hy, kM, by rw [i2c_ok hc], F5, mp5, gm2.seq gm5, rm6, t5.trans fu_s⟩
      · have kM : ¬ zM s < 200 := by
          have := (nI_eq (by have := w.2.2.2.1; omega) (by decide)).mp c49
          omega
        refine V_aload_n (pc := 52) X 0 dX9_delete_52 rfl ?_
        refine V_iconst (pc := 53) (v := 3) X dX9_delete_53 (by decide) ?_
        show V _ _ _ _ _ _ (Value.int (nI 3) :: _)
        refine V_callV (pc := 54) X clk9 (by decide) mp2.k _ (m_fails mp2 (c := nI 3)) cw_X9_144 (Q.room (by decide) (by decide)) rfl (Nat.le_of_ble_eq_true rfl) rfl (by omega) dX9_delete_54 (fun _ _ z => z.elim) ?_
        rintro v54 h54 ⟨rfl, mp9, fm9⟩
        simp only [Option.toList_some, List.cons_append, List.nil_append]
        refine V_i2c (pc := 57) X dX9_delete_57 ?_
        refine V_iret (pc := 58) X Q rfl (chr_any _) dX9_delete_58 ?_
        exact Or.inr (Or.inr (Or.inr ⟨e, he, rfl, kp, kM, ⟨_, rfl⟩, _, mp9, gm2.seq fm9, rm2.th w hH (nI 3), fu_s⟩))
    · have kp : ¬ (¬ p < 0 ∧ p < nI (eX (zE s e)).length) := fun y => by rw [if_pos (show nI 0 ≤ p ∧ p ≤ nI (eX (zE s e)).length - 1 from (btw_iff (by omega)).mpr y)] at c32; exact absurd c32 (by decide)
      refine V_aload_n (pc := 35) X 0 dX9_delete_35 rfl ?_
      refine V_iconst (pc := 36) (v := 2) X dX9_delete_36 (by decide) ?_
      show V _ _ _ _ _ _ (Value.int (nI 2) :: _)
      refine V_callV (pc := 37) X clk9 (by decide) mp2.k _ (m_fails mp2 (c := nI 2)) cw_X9_144 (Q.room (by decide) (by decide)) rfl (Nat.le_of_ble_eq_true rfl) rfl (by omega) dX9_delete_37 (fun _ _ z => z.elim) ?_
      rintro v37 h37 ⟨rfl, mp9, fm9⟩
      simp only [Option.toList_some, List.cons_append, List.nil_append]
      refine V_i2c (pc := 40) X dX9_delete_40 ?_
      refine V_iret (pc := 41) X Q rfl (chr_any _) dX9_delete_41 ?_
      exact Or.inr (Or.inr (Or.inl ⟨e, he, rfl, kp, ⟨_, rfl⟩, _, mp9, gm2.seq fm9, rm2.th w hH (nI 2), fu_s⟩))
  · have ke : ¬ (x = 0 ∨ x = 1) := fun y => by rw [if_pos (end_iff.mpr y)] at c9; exact absurd c9 (by decide)
    refine V_aload_n (pc := 12) X 0 dX9_delete_12 rfl ?_
    refine V_iconst (pc := 13) (v := 1) X dX9_delete_13 (by decide) ?_
    show V _ _ _ _ _ _ (Value.int (nI 1) :: _)
    refine V_callV (pc := 14) X clk9 (by decide) mp2.k _ (m_fails mp2 (c := nI 1)) cw_X9_144 (Q.room (by decide) (by decide)) rfl (Nat.le_of_ble_eq_true rfl) rfl (by omega) dX9_delete_14 (fun _ _ z => z.elim) ?_
    rintro v23 h23 ⟨rfl, mp9, fm9⟩
    simp only [Option.toList_some, List.cons_append, List.nil_append]
    refine V_i2c (pc := 17) X dX9_delete_17 ?_
    refine V_iret (pc := 18) X Q rfl (chr_any _) dX9_delete_18 ?_
    exact Or.inr (Or.inl ⟨ke, ⟨_, rfl⟩, _, mp9, gm2.seq fm9, rm2.th w hH (nI 1), fu_s⟩)
theorem y_erase {E : EV} {h : AH} {q : Nat} {A : Nat → Nat} {F : MS'} {s : SQ} (mp : MP h q A F) (rm : RM (zT s) F s) (hI : INV s) (hT : ∀ y ∈ zL s, (zT s y).1 < 127) {x : Int32} : Ct E yX9_erase cX9_erase 3 (some .char) 5 0 [.ref q, .int x] h (fun v h1 => (∃ e y : Nat, e ≤ 1 ∧ x = nI e ∧ 0 < eC (zE s e) ∧ (eX (zE s e))[eC (zE s e) - 1]? = some y ∧ zM s < 200 ∧ v = some (.int (nI (zT s y).1)) ∧ MR h h1 q A (sDel s e (eC (zE s e) - 1) y) 0) ∨ (¬ (x = 0 ∨ x = 1) ∧ (∃ u : Int32, v = some (.int u)) ∧ MR h h1 q A s 1) ∨ (∃ e : Nat, e ≤ 1 ∧ x = nI e ∧ eC (zE s e) = 0 ∧ (∃ u : Int32, v = some (.int u)) ∧ MR h h1 q A s 2) ∨ (∃ e : Nat, e ≤ 1 ∧ x = nI e ∧ 0 < eC (zE s e) ∧ ¬ zM s < 200 ∧ (∃ u : Int32, v = some (.int u)) ∧ MR h h1 q A s 3)) noX := by
  refine Ct_of RX9 (by decide +kernel) rfl (Nat.le_of_ble_eq_true rfl) (fun Γ X nt Q hin => ?_)
  have gm := FM.refl h
  have w := hI.ws
  have hH := hI.hH
  refine V_aload_n (pc := 0) X 0 dX9_erase_0 rfl ?_
  refine V_iconst (pc := 1) (v := 0) X dX9_erase_1 (by decide) ?_
  show V _ _ _ _ _ _ (Value.int (nI 0) :: _)
  refine M_put (pc := 2) X mp (i := 900) (by unfold isS; decide) fl_X9_92 dX9_erase_2 (fun h2 mp2 fm2 => ?_)
  have gm2 := gm.seq fm2
  have rm2 := rm.th w hH (nI 0)
  refine V_iload_n (pc := 5) X 1 dX9_erase_5 rfl ?_
  refine V_callS (pc := 6) X _ m_isEnd cw_X9_140 (Q.room (by decide) (by decide)) rfl (Nat.le_of_ble_eq_true rfl) rfl (by omega) dX9_erase_6 (fun _ _ z => z.elim) ?_
  rintro v6 h6 ⟨rfl, e6⟩
  rw [e6]
  simp only [Option.toList_some, List.cons_append, List.nil_append]
  refine V_if_ne (pc := 9) X 19 dX9_erase_9 (by decide) (fun c9 => ?_) (fun c9 => ?_)
  · have ke : x = 0 ∨ x = 1 := by
      by_cases y : 0 ≤ x ∧ x ≤ 1
      · exact end_iff.mp y
      · rw [if_neg y] at c9; exact absurd rfl c9
    obtain ⟨e, he, rfl⟩ := eq01 ke
    have re := (rm2.1 e he).1
    have ru := (rm2.1 e he).2
    have hx := (w.1 e he).1.1.1
    have hX : (eX (zE s e)).length ≤ 200 := (w.1 e he).1.1.1
    have hcu := hI.cu e he
    refine V_aload_n (pc := 19) X 0 dX9_erase_19 rfl ?_
    refine V_get (pc := 20) X fl_X9_46 dX9_erase_20 mp2.k (mp2.f 913) ?_
    refine V_iload_n (pc := 23) X 1 dX9_erase_23 rfl ?_
    refine M_ald (pc := 24) X mp2 ⟨by unfold isA; decide, by decide⟩ (by show _ < 2; omega) dX9_erase_24 ?_
    rw [re.2.2.2.2.2.1]
    refine V_if_ne (pc := 25) X 35 dX9_erase_25 (by decide) (fun c25 => ?_) (fun c25 => ?_)
    · have k0 : 0 < eC (zE s e) := by
        rcases Nat.eq_zero_or_pos (eC (zE s e)) with y | y
        · exact absurd (by rw [y]; rfl) c25
        · exact y
      have hil : eC (zE s e) - 1 < (eX (zE s e)).length := by omega
      obtain ⟨y, hy⟩ : ∃ y, (eX (zE s e))[eC (zE s e) - 1]? = some y := ⟨_, List.getElem?_eq_getElem hil⟩
      have hc := hT y ((w.1 e he).1.1.2 y (List.mem_of_getElem? hy))
      refine V_aload_n (pc := 35) X 0 dX9_erase_35 rfl ?_
      refine V_get (pc := 36) X fl_X9_125 dX9_erase_36 mp2.k (mp2.s 926) ?_
      rw [rm2.2.2.2]
      refine V_sipush (pc := 39) (v := 200) X dX9_erase_39 (by decide) ?_
      show V _ _ _ _ _ _ (Value.int (nI 200) :: _)
      refine V_icmp_ne (pc := 42) X 52 dX9_erase_42 (by decide) (fun c42 => ?_) (fun c42 => ?_)
      · have kM : zM s < 200 := by
          have h1 : zM s ≠ 200 := fun y => c42 (by rw [y])
          have := w.2.2.2.1
          omega
        refine V_aload_n (pc := 52) X 0 dX9_erase_52 rfl ?_
        refine V_iload_n (pc := 53) X 1 dX9_erase_53 rfl ?_
        refine V_aload_n (pc := 54) X 0 dX9_erase_54 rfl ?_
        refine V_get (pc := 55) X fl_X9_46 dX9_erase_55 mp2.k (mp2.f 913) ?_
        refine V_iload_n (pc := 58) X 1 dX9_erase_58 rfl ?_
        refine M_ald (pc := 59) X mp2 ⟨by unfold isA; decide, by decide⟩ (by show _ < 2; omega) dX9_erase_59 ?_
        rw [re.2.2.2.2.2.1]
        refine V_iconst (pc := 60) (v := 1) X dX9_erase_60 (by decide) ?_
        show V _ _ _ _ _ _ (Value.int (nI 1) :: _)
        refine V_isub (pc := 61) X dX9_erase_61 ?_
        rw [pk_sub (by omega)]
        refine V_callV (pc := 62) X clk9 (by decide) mp2.k _ (m_codeAt mp2 (by omega) re.2.2.2.2.1 hy) cw_X9_157 (Q.room (by decide) (by decide)) rfl (Nat.le_of_ble_eq_true rfl) rfl (by omega) dX9_erase_62 (fun _ _ z => z.elim) ?_
        rintro v62 h62 ⟨rfl, e62⟩
        rw [e62]
        simp only [Option.toList_some, List.cons_append, List.nil_append]
        refine V_istore_n (pc := 65) X [(2, .int _), (0, .ref _), (1, .int _)] dX9_erase_65 rfl (by decide) rfl ?_
        have hv : vO (2, (eC (zE s e) - 1), y, e) (eX (zE s e)).length := Or.inr (Or.inr ⟨rfl, hil⟩)
        have hl2 : (apO (2, (eC (zE s e) - 1), y, e) (eX (zE s e))).length ≤ 200 := by rw [al_2 rfl (show (eC (zE s e) - 1) < _ from hil)]; omega
        refine V_aload_n (pc := 66) X 1 dX9_erase_66 rfl ?_
        refine V_iload_n (pc := 67) X 2 dX9_erase_67 rfl ?_
        refine V_iconst (pc := 68) (v := 2) X dX9_erase_68 (by decide) ?_
        show V _ _ _ _ _ _ (Value.int (nI 2) :: _)
        refine V_aload_n (pc := 69) X 1 dX9_erase_69 rfl ?_
        refine V_get (pc := 70) X fl_X9_46 dX9_erase_70 mp2.k (mp2.f 913) ?_
        refine V_iload_n (pc := 73) X 2 dX9_erase_73 rfl ?_
        refine M_ald (pc := 74) X mp2 ⟨by unfold isA; decide, by decide⟩ (by show _ < 2; omega) dX9_erase_74 ?_
        rw [re.2.2.2.2.2.1]
        refine V_iconst (pc := 75) (v := 1) X dX9_erase_75 (by decide) ?_
        show V _ _ _ _ _ _ (Value.int (nI 1) :: _)
        refine V_isub (pc := 76) X dX9_erase_76 ?_
        rw [pk_sub (by omega)]
        refine V_iload_n (pc := 77) X 0 dX9_erase_77 rfl ?_
        refine V_iconst (pc := 78) (v := 1) X dX9_erase_78 (by decide) ?_
        refine V_callV (pc := 79) X clk9 (by decide) mp2.k _ (y_makes (a := 2) (p := (eC (zE s e) - 1)) (l := y) (k := (zT s y).1) (f := true) mp2 rm2 hI he (by decide) hv kM hl2 (fun u => absurd u (by decide)) rfl) cw_X9_153 (Q.room (by decide) (by decide)) rfl (Nat.le_of_ble_eq_true rfl) rfl (by omega) dX9_erase_79 (fun _ _ z => z.elim) ?_
        rintro v79 h79 ⟨rfl, F5, mp5, gm5, rm5, t5⟩
        simp only [Option.toList_none, List.nil_append]
        have rm6 : RM (zT (sDel s e (eC (zE s e) - 1) y)) F5 (sDel s e (eC (zE s e) - 1) y) := by rw [del_mk]; exact rm5
        refine V_iload_n (pc := 82) X 0 dX9_erase_82 rfl ?_
        refine V_i2c (pc := 83) X dX9_erase_83 ?_
        refine V_iret (pc := 84) X Q rfl (chr_any _) dX9_erase_84 ?_
        exact Or.inl ⟨e, y, he, rfl, k0, hy, kM, by rw [i2c_ok hc], F5, mp5, gm2.seq gm5, rm6, t5.trans fu_s⟩
      · have kM : ¬ zM s < 200 := by
          have := (nI_eq (by have := w.2.2.2.1; omega) (by decide)).mp c42
          omega
        refine V_aload_n (pc := 45) X 0 dX9_erase_45 rfl ?_
        refine V_iconst (pc := 46) (v := 3) X dX9_erase_46 (by decide) ?_
        show V _ _ _ _ _ _ (Value.int (nI 3) :: _)
        refine V_callV (pc := 47) X clk9 (by decide) mp2.k _ (m_fails mp2 (c := nI 3)) cw_X9_144 (Q.room (by decide) (by decide)) rfl (Nat.le_of_ble_eq_true rfl) rfl (by omega) dX9_erase_47 (fun _ _ z => z.elim) ?_
        rintro v47 h47 ⟨rfl, mp9, fm9⟩
        simp only [Option.toList_some, List.cons_append, List.nil_append]
        refine V_i2c (pc := 50) X dX9_erase_50 ?_
        refine V_iret (pc := 51) X Q rfl (chr_any _) dX9_erase_51 ?_
        exact Or.inr (Or.inr (Or.inr ⟨e, he, rfl, k0, kM, ⟨_, rfl⟩, _, mp9, gm2.seq fm9, rm2.th w hH (nI 3), fu_s⟩))
    · have k0 : eC (zE s e) = 0 := (nI_eq (b := 0) (by omega) (by decide)).mp c25
      refine V_aload_n (pc := 28) X 0 dX9_erase_28 rfl ?_
      refine V_iconst (pc := 29) (v := 2) X dX9_erase_29 (by decide) ?_
      show V _ _ _ _ _ _ (Value.int (nI 2) :: _)
      refine V_callV (pc := 30) X clk9 (by decide) mp2.k _ (m_fails mp2 (c := nI 2)) cw_X9_144 (Q.room (by decide) (by decide)) rfl (Nat.le_of_ble_eq_true rfl) rfl (by omega) dX9_erase_30 (fun _ _ z => z.elim) ?_
      rintro v30 h30 ⟨rfl, mp9, fm9⟩
      simp only [Option.toList_some, List.cons_append, List.nil_append]
      refine V_i2c (pc := 33) X dX9_erase_33 ?_
      refine V_iret (pc := 34) X Q rfl (chr_any _) dX9_erase_34 ?_
      exact Or.inr (Or.inr (Or.inl ⟨e, he, rfl, k0, ⟨_, rfl⟩, _, mp9, gm2.seq fm9, rm2.th w hH (nI 2), fu_s⟩))
  · have ke : ¬ (x = 0 ∨ x = 1) := fun y => by rw [if_pos (end_iff.mpr y)] at c9; exact absurd c9 (by decide)
    refine V_aload_n (pc := 12) X 0 dX9_erase_12 rfl ?_
    refine V_iconst (pc := 13) (v := 1) X dX9_erase_13 (by decide) ?_
    show V _ _ _ _ _ _ (Value.int (nI 1) :: _)
    refine V_callV (pc := 14) X clk9 (by decide) mp2.k _ (m_fails mp2 (c := nI 1)) cw_X9_144 (Q.room (by decide) (by decide)) rfl (Nat.le_of_ble_eq_true rfl) rfl (by omega) dX9_erase_14 (fun _ _ z => z.elim) ?_
    rintro v23 h23 ⟨rfl, mp9, fm9⟩
    simp only [Option.toList_some, List.cons_append, List.nil_append]
    refine V_i2c (pc := 17) X dX9_erase_17 ?_
    refine V_iret (pc := 18) X Q rfl (chr_any _) dX9_erase_18 ?_
    exact Or.inr (Or.inl ⟨ke, ⟨_, rfl⟩, _, mp9, gm2.seq fm9, rm2.th w hH (nI 1), fu_s⟩)
theorem y_undo {E : EV} {h : AH} {q : Nat} {A : Nat → Nat} {F : MS'} {s : SQ} (mp : MP h q A F) (rm : RM (zT s) F s) (hI : INV s) {x : Int32} : Ct E yX9_undo cX9_undo 5 (some .boolean) 5 0 [.ref q, .int x] h (fun v h1 => (∃ (e n : Nat) (k : KO), e ≤ 1 ∧ x = nI e ∧ (eK (zE s e)).length = n + 1 ∧ (eK (zE s e))[n]? = some k ∧ ((k.1 = 1 ∧ fnd (eX (zE s e)) k.2.1 0 = none ∧ v = some (.int 0) ∧ MR h h1 q A (drpK s e) 0) ∨ (k.1 = 1 ∧ ∃ i, fnd (eX (zE s e)) k.2.1 0 = some i ∧ zM s < 200 ∧ v = some (.int 1) ∧ MR h h1 q A (sUnI s e i k.2.1) 0) ∨ (k.1 = 0 ∧ v = some (.int 1) ∧ (eX (zE s e)).length < 60 ∧ zM s < 200 ∧ MR h h1 q A (sUnD s e k.2.2 k.2.1) 0))) ∨ (¬ (x = 0 ∨ x = 1) ∧ (∃ u : Int32, v = some (.int u)) ∧ MR h h1 q A s 1) ∨ (∃ e : Nat, e ≤ 1 ∧ x = nI e ∧ eK (zE s e) = [] ∧ (∃ u : Int32, v = some (.int u)) ∧ MR h h1 q A s 2) ∨ (∃ (e n : Nat) (k : KO), e ≤ 1 ∧ x = nI e ∧ (eK (zE s e)).length = n + 1 ∧ (eK (zE s e))[n]? = some k ∧ ((k.1 = 1 ∧ (∃ i, fnd (eX (zE s e)) k.2.1 0 = some i) ∧ ¬ zM s < 200) ∨ (k.1 = 0 ∧ ¬ ((eX (zE s e)).length < 60 ∧ zM s < 200))) ∧ (∃ u : Int32, v = some (.int u)) ∧ MR h h1 q A s 3)) noX := by
  refine Ct_of RX9 (by decide +kernel) rfl (Nat.le_of_ble_eq_true rfl) (fun Γ X nt Q hin => ?_)
  have gm := FM.refl h
  have w := hI.ws
  have hH := hI.hH
  refine V_aload_n (pc := 0) X 0 dX9_undo_0 rfl ?_
  refine V_iconst (pc := 1) (v := 0) X dX9_undo_1 (by decide) ?_
  show V _ _ _ _ _ _ (Value.int (nI 0) :: _)
  refine M_put (pc := 2) X mp (i := 900) (by unfold isS; decide) fl_X9_92 dX9_undo_2 (fun h2 mp2 fm2 => ?_)
  have gm2 := gm.seq fm2
  have rm2 := rm.th w hH (nI 0)
  refine V_iload_n (pc := 5) X 1 dX9_undo_5 rfl ?_
  refine V_callS (pc := 6) X _ m_isEnd cw_X9_140 (Q.room (by decide) (by decide)) rfl (Nat.le_of_ble_eq_true rfl) rfl (by omega) dX9_undo_6 (fun _ _ z => z.elim) ?_
  rintro v6 h6 ⟨rfl, e6⟩
  rw [e6]
  simp only [Option.toList_some, List.cons_append, List.nil_append]
  refine V_if_ne (pc := 9) X 26 dX9_undo_9 (by decide) (fun c9 => ?_) (fun c9 => ?_)
  · have ke : x = 0 ∨ x = 1 := by
      by_cases y : 0 ≤ x ∧ x ≤ 1
      · exact end_iff.mp y
      · rw [if_neg y] at c9; exact absurd rfl c9
    obtain ⟨e, he, rfl⟩ := eq01 ke
    have re := (rm2.1 e he).1
    have ru := (rm2.1 e he).2
    have hx := (w.1 e he).1.1.1
    have hX : (eX (zE s e)).length ≤ 200 := (w.1 e he).1.1.1
    refine V_aload_n (pc := 26) X 0 dX9_undo_26 rfl ?_
    refine V_get (pc := 27) X fl_X9_77 dX9_undo_27 mp2.k (mp2.f 923) ?_
    refine V_iload_n (pc := 30) X 1 dX9_undo_30 rfl ?_
    refine M_ald (pc := 31) X mp2 ⟨by unfold isA; decide, by decide⟩ (by show _ < 2; omega) dX9_undo_31 ?_
    rw [re.2.2.2.2.2.2.2.2.2.1]
    refine V_if_ne (pc := 32) X 49 dX9_undo_32 (by decide) (fun c32 => ?_) (fun c32 => ?_)
    · have kn : (eK (zE s e)).length ≠ 0 := fun y => c32 (by rw [y]; rfl)
      obtain ⟨n, hn⟩ : ∃ n, (eK (zE s e)).length = n + 1 := ⟨(eK (zE s e)).length - 1, by omega⟩
      obtain ⟨k, hk⟩ : ∃ k, (eK (zE s e))[n]? = some k := ⟨_, List.getElem?_eq_getElem (by omega)⟩
      have hKl : (eK (zE s e)).length ≤ 200 := (w.1 e he).1.2.2.2.1.1
      have wk := (w.1 e he).1.2.2.2.1.2 k (List.mem_of_getElem? hk)
      unfold wK at wk
      obtain ⟨km1, ⟨pl, km2, km3, km4⟩, km5, km6⟩ := re.2.2.2.2.2.2.2.2.2.2 n k hk
      have rmd := rm2.dr w hH he hn
      have tx := re.2.2.2.2.1
      have idb : ∀ y ∈ zL s, y < 2 ^ 30 := fun y hy => by have := w.2.2.2.2 y hy; have := w.2.2.2.1; omega
      refine V_sipush (pc := 49) (v := 200) X dX9_undo_49 (by decide) ?_
      show V _ _ _ _ _ _ (Value.int (nI 200) :: _)
      refine V_iload_n (pc := 52) X 1 dX9_undo_52 rfl ?_
      refine V_imul (pc := 53) X dX9_undo_53 ?_
      rw [pk_mul]
      refine V_aload_n (pc := 54) X 0 dX9_undo_54 rfl ?_
      refine V_get (pc := 55) X fl_X9_77 dX9_undo_55 mp2.k (mp2.f 923) ?_
      refine V_iload_n (pc := 58) X 1 dX9_undo_58 rfl ?_
      refine M_ald (pc := 59) X mp2 ⟨by unfold isA; decide, by decide⟩ (by show _ < 2; omega) dX9_undo_59 ?_
      rw [re.2.2.2.2.2.2.2.2.2.1, hn]
      refine V_iadd (pc := 60) X dX9_undo_60 ?_
      rw [nI_add]
      refine V_iconst (pc := 61) (v := 1) X dX9_undo_61 (by decide) ?_
      show V _ _ _ _ _ _ (Value.int (nI 1) :: _)
      refine V_isub (pc := 62) X dX9_undo_62 ?_
      rw [pk_sub (by omega)]
      rw [show 200 * e + (n + 1) - 1 = 200 * e + n by omega]
      refine V_istore_n (pc := 63) X [(2, .int _), (0, .ref _), (1, .int _)] dX9_undo_63 rfl (by decide) rfl ?_
      refine V_aload_n (pc := 64) X 1 dX9_undo_64 rfl ?_
      refine V_get (pc := 65) X fl_X9_65 dX9_undo_65 mp2.k (mp2.f 919) ?_
      refine V_iload_n (pc := 68) X 0 dX9_undo_68 rfl ?_
      refine M_ald (pc := 69) X mp2 ⟨by unfold isA; decide, by decide⟩ (by show _ < 400; omega) dX9_undo_69 ?_
      rw [km1]
      refine V_iconst (pc := 70) (v := 1) X dX9_undo_70 (by decide) ?_
      show V _ _ _ _ _ _ (Value.int (nI 1) :: _)
      refine V_icmp_ne (pc := 71) X 78 dX9_undo_71 (by decide) (fun c71 => ?_) (fun c71 => ?_)
      · have k0 : k.1 = 0 := by
          have : k.1 ≠ 1 := fun y => c71 (by rw [if_pos y])
          omega
        have epl := km4 k0
        subst epl
        have kpl := km3
        refine V_iconst (pc := 78) (v := 0) X dX9_undo_78 (by decide) ?_
        show V _ _ _ _ _ _ (Value.int (nI 0) :: _)
        refine V_istore_n (pc := 79) X [(3, .int _), (2, .int _), (0, .ref _), (1, .int _)] dX9_undo_79 rfl (by decide) rfl ?_
        refine V_iload_n (pc := 80) X 0 dX9_undo_80 rfl ?_
        refine V_if_eq (pc := 81) X 98 dX9_undo_81 (by decide) (fun c81 => ?_) (fun c81 => ?_)
        · refine V_aload_n (pc := 98) X 2 dX9_undo_98 rfl ?_
          refine V_get (pc := 99) X fl_X9_68 dX9_undo_99 mp2.k (mp2.f 920) ?_
          refine V_iload_n (pc := 102) X 1 dX9_undo_102 rfl ?_
          refine M_ald (pc := 103) X mp2 ⟨by unfold isA; decide, by decide⟩ (by show _ < 400; omega) dX9_undo_103 ?_
          rw [km2]
          refine V_istore (pc := 104) X [(4, .int _), (3, .int _), (2, .int _), (0, .ref _), (1, .int _)] dX9_undo_104 (by decide) rfl ?_
          refine V_iload (pc := 106) X 0 dX9_undo_106 rfl ?_
          refine V_if_lt (pc := 108) X 150 dX9_undo_108 (by decide) (fun c108 => ?_) (fun c108 => ?_)
          · exact absurd c108 (nI_pos (by omega))
          · refine V_iload_n (pc := 111) X 1 dX9_undo_111 rfl ?_
            refine V_if_eq (pc := 112) X 128 dX9_undo_112 (by decide) (fun c112 => ?_) (fun c112 => ?_)
            · refine V_aload_n (pc := 128) X 3 dX9_undo_128 rfl ?_
              refine V_iload_n (pc := 129) X 4 dX9_undo_129 rfl ?_
              refine V_callV (pc := 130) X clk9 (by decide) mp2.k _ (m_isFull mp2 he tx.2.1 rm2.2.2.2 hx w.2.2.2.1) cw_X9_150 (Q.room (by decide) (by decide)) rfl (Nat.le_of_ble_eq_true rfl) rfl (by omega) dX9_undo_130 (fun _ _ z => z.elim) ?_
              rintro v130 h130 ⟨rfl, e130⟩
              rw [e130]
              simp only [Option.toList_some, List.cons_append, List.nil_append]
              refine V_if_eq (pc := 133) X 150 dX9_undo_133 (by decide) (fun c133 => ?_) (fun c133 => ?_)
              · have kf : ((eX (zE s e)).length < 60 ∧ zM s < 200) := by
                  by_cases y : ((eX (zE s e)).length < 60 ∧ zM s < 200)
                  · exact y
                  · rw [if_neg y] at c133; exact absurd c133 (by decide)
                refine V_aload_n (pc := 150) X 3 dX9_undo_150 rfl ?_
                refine V_get (pc := 151) X fl_X9_77 dX9_undo_151 mp2.k (mp2.f 923) ?_
                refine V_iload_n (pc := 154) X 4 dX9_undo_154 rfl ?_
                refine V_dup2 (pc := 155) X dX9_undo_155 rfl rfl ?_
                refine M_ald (pc := 156) X mp2 ⟨by unfold isA; decide, by decide⟩ (by show _ < 2; omega) dX9_undo_156 ?_
                rw [re.2.2.2.2.2.2.2.2.2.1, hn]
                refine V_iconst (pc := 157) (v := 1) X dX9_undo_157 (by decide) ?_
                show V _ _ _ _ _ _ (Value.int (nI 1) :: _)
                refine V_isub (pc := 158) X dX9_undo_158 ?_
                rw [pk_sub (by omega)]
                rw [Nat.add_sub_cancel]
                refine M_ast (pc := 159) X mp2 ⟨by unfold isA; decide, by decide⟩ (by show _ < 2; omega) dX9_undo_159 (fun h159 mp159 fm159 => ?_)
                have gm159 := gm2.seq fm159
                refine V_iload (pc := 160) X 0 dX9_undo_160 rfl ?_
                refine V_if_lt (pc := 162) X 188 dX9_undo_162 (by decide) (fun c162 => ?_) (fun c162 => ?_)
                · exact absurd c162 (nI_pos (by omega))
                · have hiD := hI.drp' he
                  have eX' : eX (zE (drpK s e) e) = eX (zE s e) := by rw [show zE (drpK s e) e = _ from zE_s _ _ _]; rfl
                  have rm4 : RM (zu (zT s) (zM s) ((zT s k.2.1).1, e)) (fu (fu F 900 0 (nI 0)) 923 e (nI n)) (drpK s e) := rmd.otb (fun y hy => zu_n (by have := w.2.2.2.2 y hy; omega)) hiD.ws
                  have hv : vO (1, k.2.2, zM s, e) (eX (zE (drpK s e) e)).length := Or.inr (Or.inl ⟨rfl, by rw [eX']; exact kpl⟩)
                  have hl2 : (apO (1, k.2.2, zM s, e) (eX (zE (drpK s e) e))).length ≤ 200 := by rw [al_1 rfl (show k.2.2 ≤ _ by rw [eX']; exact kpl), eX']; have := kf.1; omega
                  refine V_aload_n (pc := 165) X 3 dX9_undo_165 rfl ?_
                  refine V_iload_n (pc := 166) X 4 dX9_undo_166 rfl ?_
                  refine V_iload_n (pc := 167) X 1 dX9_undo_167 rfl ?_
                  refine V_if_eq (pc := 168) X 175 dX9_undo_168 (by decide) (fun c168 => ?_) (fun c168 => ?_)
                  · refine V_iconst (pc := 175) (v := 1) X dX9_undo_175 (by decide) ?_
                    show V _ _ _ _ _ _ (Value.int (nI 1) :: _)
                    refine V_iload (pc := 176) X 0 dX9_undo_176 rfl ?_
                    refine V_aload_n (pc := 178) X 3 dX9_undo_178 rfl ?_
                    refine V_get (pc := 179) X fl_X9_71 dX9_undo_179 mp159.k (mp159.f 921) ?_
                    refine V_iload_n (pc := 182) X 2 dX9_undo_182 rfl ?_
                    refine M_ald (pc := 183) X mp159 ⟨by unfold isA; decide, by decide⟩ (by show _ < 400; omega) dX9_undo_183 ?_
                    rw [show fu (fu F 900 0 (nI 0)) 923 e (nI n) 921 (200 * e + n) = nI (zT s k.2.1).1 from (fu_i (by decide)).trans km5]
                    refine V_iconst (pc := 184) (v := 0) X dX9_undo_184 (by decide) ?_
                    refine V_callV (pc := 185) X clk9 (by decide) mp159.k _ (y_makes (a := 1) (p := k.2.2) (l := zM s) (k := (zT s k.2.1).1) (f := false) mp159 rm4 hiD he (by decide) hv kf.2 hl2 (fun _ => ⟨rfl, by rw [zu_s]⟩) (by rw [zu_s])) cw_X9_153 (Q.room (by decide) (by decide)) rfl (Nat.le_of_ble_eq_true rfl) rfl (by omega) dX9_undo_185 (fun _ _ z => z.elim) ?_
                    rintro v185 h185 ⟨rfl, F5, mp5, gm5, rm5, t5⟩
                    simp only [Option.toList_none, List.nil_append]
                    have rm6 : RM (zT (sUnD s e k.2.2 k.2.1)) F5 (sUnD s e k.2.2 k.2.1) := by rw [unD_mk]; exact rm5
                    refine V_iload (pc := 188) X 0 dX9_undo_188 rfl ?_
                    refine V_if_lt (pc := 190) X 197 dX9_undo_190 (by decide) (fun c190 => ?_) (fun c190 => ?_)
                    · exact absurd c190 (nI_pos (by omega))
                    · refine V_iconst (pc := 193) (v := 1) X dX9_undo_193 (by decide) ?_
                      show V _ _ _ _ _ _ (Value.int (nI 1) :: _)
                      refine V_goto (pc := 194) X 198 dX9_undo_194 (by decide) ?_
                      refine V_iret (pc := 198) X Q rfl rfl dX9_undo_198 ?_
                      exact Or.inl ⟨e, n, k, he, rfl, hn, hk, Or.inr (Or.inr ⟨k0, rfl, kf.1, kf.2, F5, mp5, gm159.seq gm5, rm6, t5.trans ((fu_i (by decide)).trans fu_s)⟩)⟩
                  · exact absurd rfl c168
              · have kf : ¬ ((eX (zE s e)).length < 60 ∧ zM s < 200) := fun y => by rw [if_pos y] at c133; exact absurd rfl c133
                refine V_aload_n (pc := 136) X 3 dX9_undo_136 rfl ?_
                refine V_iconst (pc := 137) (v := 3) X dX9_undo_137 (by decide) ?_
                show V _ _ _ _ _ _ (Value.int (nI 3) :: _)
                refine V_callV (pc := 138) X clk9 (by decide) mp2.k _ (m_fails mp2 (c := nI 3)) cw_X9_144 (Q.room (by decide) (by decide)) rfl (Nat.le_of_ble_eq_true rfl) rfl (by omega) dX9_undo_138 (fun _ _ z => z.elim) ?_
                rintro v138 h138 ⟨rfl, mp9, fm9⟩
                simp only [Option.toList_some, List.cons_append, List.nil_append]
                refine V_if_le (pc := 141) X 148 dX9_undo_141 (by decide) (fun c141 => ?_) (fun c141 => ?_)
                · refine V_iconst (pc := 148) (v := 0) X dX9_undo_148 (by decide) ?_
                  show V _ _ _ _ _ _ (Value.int (nI 0) :: _)
                  refine V_iret (pc := 149) X Q rfl rfl dX9_undo_149 ?_
                  first
                  | exact Or.inr (Or.inr (Or.inr ⟨e, n, k, he, rfl, hn, hk, Or.inr ⟨k0, kf⟩, ⟨_, rfl⟩, _, mp9, gm2.seq fm9, rm2.th w hH (nI 3), fu_s⟩))
                  | exact Or.inr (Or.inr (Or.inr ⟨e, n, k, he, rfl, hn, hk, Or.inl ⟨k1, ⟨i, hf⟩, kM⟩, ⟨_, rfl⟩, _, mp9, gm2.seq fm9, rm2.th w hH (nI 3), fu_s⟩))
                · exact absurd (show (0 : Int32) ≤ 0 by decide) c141
            · exact absurd rfl c112
        · exact absurd rfl c81
      · have k1 : k.1 = 1 := by
          by_cases y : k.1 = 1
          · exact y
          · rw [if_neg y] at c71; exact absurd c71 (by decide)
        refine V_iconst (pc := 74) (v := 1) X dX9_undo_74 (by decide) ?_
        show V _ _ _ _ _ _ (Value.int (nI 1) :: _)
        refine V_goto (pc := 75) X 79 dX9_undo_75 (by decide) ?_
        refine V_istore_n (pc := 79) X [(3, .int _), (2, .int _), (0, .ref _), (1, .int _)] dX9_undo_79 rfl (by decide) rfl ?_
        refine V_iload_n (pc := 80) X 0 dX9_undo_80 rfl ?_
        refine V_if_eq (pc := 81) X 98 dX9_undo_81 (by decide) (fun c81 => ?_) (fun c81 => ?_)
        · exact absurd c81 (by decide)
        · refine V_aload_n (pc := 84) X 2 dX9_undo_84 rfl ?_
          refine V_iload_n (pc := 85) X 3 dX9_undo_85 rfl ?_
          refine V_aload_n (pc := 86) X 2 dX9_undo_86 rfl ?_
          refine V_get (pc := 87) X fl_X9_74 dX9_undo_87 mp2.k (mp2.f 922) ?_
          refine V_iload_n (pc := 90) X 1 dX9_undo_90 rfl ?_
          refine M_ald (pc := 91) X mp2 ⟨by unfold isA; decide, by decide⟩ (by show _ < 400; omega) dX9_undo_91 ?_
          rw [km6 k1]
          refine V_callV (pc := 92) X clk9 (by decide) mp2.k _ (m_find mp2 he tx (idb _ wk.2.2) (fun y hy => idb y ((w.1 e he).1.1.2 y hy))) cw_X9_160 (Q.room (by decide) (by decide)) rfl (Nat.le_of_ble_eq_true rfl) rfl (by omega) dX9_undo_92 (fun _ _ z => z.elim) ?_
          rintro v92 h92 ⟨rfl, e92⟩
          rw [e92]
          simp only [Option.toList_some, List.cons_append, List.nil_append]
          refine V_goto (pc := 95) X 104 dX9_undo_95 (by decide) ?_
          refine V_istore (pc := 104) X [(4, .int _), (3, .int _), (2, .int _), (0, .ref _), (1, .int _)] dX9_undo_104 (by decide) rfl ?_
          refine V_iload (pc := 106) X 0 dX9_undo_106 rfl ?_
          refine V_if_lt (pc := 108) X 150 dX9_undo_108 (by decide) (fun c108 => ?_) (fun c108 => ?_)
          · have hf : fnd (eX (zE s e)) k.2.1 0 = none := by
              cases hh : fnd (eX (zE s e)) k.2.1 0 with
              | none => rfl
              | some i => rw [hh] at c108; exact absurd c108 (nI_pos (by have := fnd_lt _ _ _ _ hh; omega))
            rw [hf]
            refine V_aload_n (pc := 150) X 3 dX9_undo_150 rfl ?_
            refine V_get (pc := 151) X fl_X9_77 dX9_undo_151 mp2.k (mp2.f 923) ?_
            refine V_iload_n (pc := 154) X 4 dX9_undo_154 rfl ?_
            refine V_dup2 (pc := 155) X dX9_undo_155 rfl rfl ?_
            refine M_ald (pc := 156) X mp2 ⟨by unfold isA; decide, by decide⟩ (by show _ < 2; omega) dX9_undo_156 ?_
            rw [re.2.2.2.2.2.2.2.2.2.1, hn]
            refine V_iconst (pc := 157) (v := 1) X dX9_undo_157 (by decide) ?_
            show V _ _ _ _ _ _ (Value.int (nI 1) :: _)
            refine V_isub (pc := 158) X dX9_undo_158 ?_
            rw [pk_sub (by omega)]
            rw [Nat.add_sub_cancel]
            refine M_ast (pc := 159) X mp2 ⟨by unfold isA; decide, by decide⟩ (by show _ < 2; omega) dX9_undo_159 (fun h159 mp159 fm159 => ?_)
            have gm159 := gm2.seq fm159
            refine V_iload (pc := 160) X 0 dX9_undo_160 rfl ?_
            refine V_if_lt (pc := 162) X 188 dX9_undo_162 (by decide) (fun c162 => ?_) (fun c162 => ?_)
            · refine V_iload (pc := 188) X 0 dX9_undo_188 rfl ?_
              refine V_if_lt (pc := 190) X 197 dX9_undo_190 (by decide) (fun c190 => ?_) (fun c190 => ?_)
              · refine V_iconst (pc := 197) (v := 0) X dX9_undo_197 (by decide) ?_
                show V _ _ _ _ _ _ (Value.int (nI 0) :: _)
                refine V_iret (pc := 198) X Q rfl rfl dX9_undo_198 ?_
                exact Or.inl ⟨e, n, k, he, rfl, hn, hk, Or.inl ⟨k1, hf, rfl, _, mp159, gm159, rmd, (fu_i (by decide)).trans fu_s⟩⟩
              · exact absurd (by decide) c190
            · exact absurd (by decide) c162
          · obtain ⟨i, hf⟩ : ∃ i, fnd (eX (zE s e)) k.2.1 0 = some i := by
              cases hh : fnd (eX (zE s e)) k.2.1 0 with
              | none => rw [hh] at c108; exact absurd (by decide) c108
              | some i => exact ⟨i, rfl⟩
            have hil := fnd_lt _ _ _ _ hf
            rw [Nat.add_zero] at hil
            rw [hf, show oI (some i) = nI i from rfl]
            refine V_iload_n (pc := 111) X 1 dX9_undo_111 rfl ?_
            refine V_if_eq (pc := 112) X 128 dX9_undo_112 (by decide) (fun c112 => ?_) (fun c112 => ?_)
            · exact absurd c112 (by decide)
            · refine V_aload_n (pc := 115) X 3 dX9_undo_115 rfl ?_
              refine V_get (pc := 116) X fl_X9_125 dX9_undo_116 mp2.k (mp2.s 926) ?_
              rw [rm2.2.2.2]
              refine V_sipush (pc := 119) (v := 200) X dX9_undo_119 (by decide) ?_
              show V _ _ _ _ _ _ (Value.int (nI 200) :: _)
              refine V_icmp_ne (pc := 122) X 150 dX9_undo_122 (by decide) (fun c122 => ?_) (fun c122 => ?_)
              · have kM : zM s < 200 := by
                  have h1 : zM s ≠ 200 := fun y => c122 (by rw [y])
                  have := w.2.2.2.1
                  omega
                refine V_aload_n (pc := 150) X 3 dX9_undo_150 rfl ?_
                refine V_get (pc := 151) X fl_X9_77 dX9_undo_151 mp2.k (mp2.f 923) ?_
                refine V_iload_n (pc := 154) X 4 dX9_undo_154 rfl ?_
                refine V_dup2 (pc := 155) X dX9_undo_155 rfl rfl ?_
                refine M_ald (pc := 156) X mp2 ⟨by unfold isA; decide, by decide⟩ (by show _ < 2; omega) dX9_undo_156 ?_
                rw [re.2.2.2.2.2.2.2.2.2.1, hn]
                refine V_iconst (pc := 157) (v := 1) X dX9_undo_157 (by decide) ?_
                show V _ _ _ _ _ _ (Value.int (nI 1) :: _)
                refine V_isub (pc := 158) X dX9_undo_158 ?_
                rw [pk_sub (by omega)]
                rw [Nat.add_sub_cancel]
                refine M_ast (pc := 159) X mp2 ⟨by unfold isA; decide, by decide⟩ (by show _ < 2; omega) dX9_undo_159 (fun h159 mp159 fm159 => ?_)
                have gm159 := gm2.seq fm159
                refine V_iload (pc := 160) X 0 dX9_undo_160 rfl ?_
                refine V_if_lt (pc := 162) X 188 dX9_undo_162 (by decide) (fun c162 => ?_) (fun c162 => ?_)
                · exact absurd c162 (nI_pos (by omega))
                · have hiD := hI.drp' he
                  have eX' : eX (zE (drpK s e) e) = eX (zE s e) := by rw [show zE (drpK s e) e = _ from zE_s _ _ _]; rfl
                  have hv : vO (2, i, k.2.1, e) (eX (zE (drpK s e) e)).length := Or.inr (Or.inr ⟨rfl, by rw [eX']; exact hil⟩)
                  have hl2 : (apO (2, i, k.2.1, e) (eX (zE (drpK s e) e))).length ≤ 200 := by rw [al_2 rfl (show i < _ by rw [eX']; exact hil), eX']; omega
                  refine V_aload_n (pc := 165) X 3 dX9_undo_165 rfl ?_
                  refine V_iload_n (pc := 166) X 4 dX9_undo_166 rfl ?_
                  refine V_iload_n (pc := 167) X 1 dX9_undo_167 rfl ?_
                  refine V_if_eq (pc := 168) X 175 dX9_undo_168 (by decide) (fun c168 => ?_) (fun c168 => ?_)
                  · exact absurd c168 (by decide)
                  · refine V_iconst (pc := 171) (v := 2) X dX9_undo_171 (by decide) ?_
                    show V _ _ _ _ _ _ (Value.int (nI 2) :: _)
                    refine V_goto (pc := 172) X 176 dX9_undo_172 (by decide) ?_
                    refine V_iload (pc := 176) X 0 dX9_undo_176 rfl ?_
                    refine V_aload_n (pc := 178) X 3 dX9_undo_178 rfl ?_
                    refine V_get (pc := 179) X fl_X9_71 dX9_undo_179 mp159.k (mp159.f 921) ?_
                    refine V_iload_n (pc := 182) X 2 dX9_undo_182 rfl ?_
                    refine M_ald (pc := 183) X mp159 ⟨by unfold isA; decide, by decide⟩ (by show _ < 400; omega) dX9_undo_183 ?_
                    rw [show fu (fu F 900 0 (nI 0)) 923 e (nI n) 921 (200 * e + n) = nI (zT s k.2.1).1 from (fu_i (by decide)).trans km5]
                    refine V_iconst (pc := 184) (v := 0) X dX9_undo_184 (by decide) ?_
                    refine V_callV (pc := 185) X clk9 (by decide) mp159.k _ (y_makes (a := 2) (p := i) (l := k.2.1) (k := (zT s k.2.1).1) (f := false) mp159 rmd hiD he (by decide) hv kM hl2 (fun u => absurd u (by decide)) rfl) cw_X9_153 (Q.room (by decide) (by decide)) rfl (Nat.le_of_ble_eq_true rfl) rfl (by omega) dX9_undo_185 (fun _ _ z => z.elim) ?_
                    rintro v185 h185 ⟨rfl, F5, mp5, gm5, rm5, t5⟩
                    simp only [Option.toList_none, List.nil_append]
                    have rm6 : RM (zT (sUnI s e i k.2.1)) F5 (sUnI s e i k.2.1) := by rw [unI_mk]; exact rm5
                    refine V_iload (pc := 188) X 0 dX9_undo_188 rfl ?_
                    refine V_if_lt (pc := 190) X 197 dX9_undo_190 (by decide) (fun c190 => ?_) (fun c190 => ?_)
                    · exact absurd c190 (nI_pos (by omega))
                    · refine V_iconst (pc := 193) (v := 1) X dX9_undo_193 (by decide) ?_
                      show V _ _ _ _ _ _ (Value.int (nI 1) :: _)
                      refine V_goto (pc := 194) X 198 dX9_undo_194 (by decide) ?_
                      refine V_iret (pc := 198) X Q rfl rfl dX9_undo_198 ?_
                      exact Or.inl ⟨e, n, k, he, rfl, hn, hk, Or.inr (Or.inl ⟨k1, i, hf, kM, rfl, F5, mp5, gm159.seq gm5, rm6, t5.trans ((fu_i (by decide)).trans fu_s)⟩)⟩
              · have kM : ¬ zM s < 200 := by
                  have := (nI_eq (by have := w.2.2.2.1; omega) (by decide)).mp c122
                  omega
                refine V_goto (pc := 125) X 136 dX9_undo_125 (by decide) ?_
                refine V_aload_n (pc := 136) X 3 dX9_undo_136 rfl ?_
                refine V_iconst (pc := 137) (v := 3) X dX9_undo_137 (by decide) ?_
                show V _ _ _ _ _ _ (Value.int (nI 3) :: _)
                refine V_callV (pc := 138) X clk9 (by decide) mp2.k _ (m_fails mp2 (c := nI 3)) cw_X9_144 (Q.room (by decide) (by decide)) rfl (Nat.le_of_ble_eq_true rfl) rfl (by omega) dX9_undo_138 (fun _ _ z => z.elim) ?_
                rintro v138 h138 ⟨rfl, mp9, fm9⟩
                simp only [Option.toList_some, List.cons_append, List.nil_append]
                refine V_if_le (pc := 141) X 148 dX9_undo_141 (by decide) (fun c141 => ?_) (fun c141 => ?_)
                · refine V_iconst (pc := 148) (v := 0) X dX9_undo_148 (by decide) ?_
                  show V _ _ _ _ _ _ (Value.int (nI 0) :: _)
                  refine V_iret (pc := 149) X Q rfl rfl dX9_undo_149 ?_
                  first
                  | exact Or.inr (Or.inr (Or.inr ⟨e, n, k, he, rfl, hn, hk, Or.inr ⟨k0, kf⟩, ⟨_, rfl⟩, _, mp9, gm2.seq fm9, rm2.th w hH (nI 3), fu_s⟩))
                  | exact Or.inr (Or.inr (Or.inr ⟨e, n, k, he, rfl, hn, hk, Or.inl ⟨k1, ⟨i, hf⟩, kM⟩, ⟨_, rfl⟩, _, mp9, gm2.seq fm9, rm2.th w hH (nI 3), fu_s⟩))
                · exact absurd (show (0 : Int32) ≤ 0 by decide) c141
    · have kn : eK (zE s e) = [] := List.length_eq_zero_iff.mp ((nI_eq (b := 0) (by have := (w.1 e he).1.2.2.2.1.1; exact Nat.lt_of_le_of_lt this (by decide)) (by decide)).mp c32)
      refine V_aload_n (pc := 35) X 0 dX9_undo_35 rfl ?_
      refine V_iconst (pc := 36) (v := 2) X dX9_undo_36 (by decide) ?_
      show V _ _ _ _ _ _ (Value.int (nI 2) :: _)
      refine V_callV (pc := 37) X clk9 (by decide) mp2.k _ (m_fails mp2 (c := nI 2)) cw_X9_144 (Q.room (by decide) (by decide)) rfl (Nat.le_of_ble_eq_true rfl) rfl (by omega) dX9_undo_37 (fun _ _ z => z.elim) ?_
      rintro v37 h37 ⟨rfl, mp9, fm9⟩
      simp only [Option.toList_some, List.cons_append, List.nil_append]
      refine V_if_le (pc := 40) X 47 dX9_undo_40 (by decide) (fun c40 => ?_) (fun c40 => ?_)
      · refine V_iconst (pc := 47) (v := 0) X dX9_undo_47 (by decide) ?_
        show V _ _ _ _ _ _ (Value.int (nI 0) :: _)
        refine V_iret (pc := 48) X Q rfl rfl dX9_undo_48 ?_
        exact Or.inr (Or.inr (Or.inl ⟨e, he, rfl, kn, ⟨_, rfl⟩, _, mp9, gm2.seq fm9, rm2.th w hH (nI 2), fu_s⟩))
      · exact absurd (show (0 : Int32) ≤ 0 by decide) c40
  · have ke : ¬ (x = 0 ∨ x = 1) := fun y => by rw [if_pos (end_iff.mpr y)] at c9; exact absurd c9 (by decide)
    refine V_aload_n (pc := 12) X 0 dX9_undo_12 rfl ?_
    refine V_iconst (pc := 13) (v := 1) X dX9_undo_13 (by decide) ?_
    show V _ _ _ _ _ _ (Value.int (nI 1) :: _)
    refine V_callV (pc := 14) X clk9 (by decide) mp2.k _ (m_fails mp2 (c := nI 1)) cw_X9_144 (Q.room (by decide) (by decide)) rfl (Nat.le_of_ble_eq_true rfl) rfl (by omega) dX9_undo_14 (fun _ _ z => z.elim) ?_
    rintro v23 h23 ⟨rfl, mp9, fm9⟩
    simp only [Option.toList_some, List.cons_append, List.nil_append]
    refine V_if_le (pc := 17) X 24 dX9_undo_17 (by decide) (fun c17 => ?_) (fun c17 => ?_)
    · refine V_iconst (pc := 24) (v := 0) X dX9_undo_24 (by decide) ?_
      show V _ _ _ _ _ _ (Value.int (nI 0) :: _)
      refine V_iret (pc := 25) X Q rfl rfl dX9_undo_25 ?_
      exact Or.inr (Or.inl ⟨ke, ⟨_, rfl⟩, _, mp9, gm2.seq fm9, rm2.th w hH (nI 1), fu_s⟩)
    · exact absurd (show (0 : Int32) ≤ 0 by decide) c17
