/-! THE MODEL: THE CURSOR -/
theorem TOs.cur {s : SQ} (h : TOs s) {e j : Nat} : TOs (sCur s e j) := by
  refine ⟨h.1, fun i hi => ⟨(h.2 i hi).1, ?_⟩⟩
  have e1 : eS (zE (sCur s e j) i) ++ eW (zE (sCur s e j) i) = eS (zE s i) ++ eW (zE s i) := by
    have : zE (sCur s e j) i = zu s.1 e ((zE s e).1, (zE s e).2.1, (zE s e).2.2.1, (zE s e).2.2.2.1, j, (zE s e).2.2.2.2.2) i := rfl
    rw [this]
    by_cases y : i = e
    · subst y; rw [zu_s]; rfl
    · rw [zu_n y]; rfl
  rw [e1]; exact (h.2 i hi).2
theorem RE.cu {tb : Nat → Nat × Nat} {F : MS'} {e : Nat} {x : EQ} (z : RE tb F e x) (j : Nat) : RE tb (fu F 913 e (nI j)) e (x.1, x.2.1, x.2.2.1, x.2.2.2.1, j, x.2.2.2.2.2) := by
  obtain ⟨a1, a2, a3, a4, a5, a6, a7, a8, a9, a10, a11⟩ := z
  have f : ∀ a b, a ≠ 913 → fu F 913 e (nI j) a b = F a b := fun a b h => fu_i h
  refine ⟨(f _ _ (by decide)).trans a1, a2.os (fun k _ _ => OS_of (fun i _ _ => f _ _ (by omega))), (f _ _ (by decide)).trans a3, a4.os (fun k _ _ => OS_of (fun i _ _ => f _ _ (by omega))), a5.same (f _ _ (by decide)) (fun a b _ _ _ _ => f _ _ (by omega)), fu_s, (f _ _ (by decide)).trans a7, (f _ _ (by decide)).trans a8, (f _ _ (by decide)).trans a9, (f _ _ (by decide)).trans a10, fun k o hk => ?_⟩
  obtain ⟨b1, ⟨pl, b2, b3, b4⟩, b5, b6⟩ := a11 k o hk
  exact ⟨(f _ _ (by decide)).trans b1, ⟨pl, (f _ _ (by decide)).trans b2, b3, b4⟩, (f _ _ (by decide)).trans b5, fun u => (f _ _ (by decide)).trans (b6 u)⟩
theorem RM.cu {tb : Nat → Nat × Nat} {F : MS'} {s : SQ} (z : RM tb F s) (w : WS' s) (hH : (hop (zH s)).length ≤ 200) {e : Nat} (he : e ≤ 1) (j : Nat) : RM tb (fu F 913 e (nI j)) (sCur s e j) := by
  obtain ⟨o1, o2, o3⟩ := z.oth w hH he (F' := fu F 913 e (nI j)) (S := fun a b => a = 913 ∧ b = e) (fun a b h => if_neg h) (fun a b h => Or.inl (by obtain ⟨rfl, rfl⟩ := h; unfold rgE; omega))
  refine ⟨fun i hi => ?_, o2, o3, (fu_i (by decide)).trans z.2.2.2⟩
  have e1 : zE (sCur s e j) i = zu s.1 e ((zE s e).1, (zE s e).2.1, (zE s e).2.2.1, (zE s e).2.2.2.1, j, (zE s e).2.2.2.2.2) i := rfl
  rw [e1]
  by_cases y : i = e
  · subst y
    rw [zu_s]
    refine ⟨(z.1 i hi).1.cu j, (z.1 i hi).2.ke (S := fun a b => a = 913 ∧ b = i) (fun a b h => if_neg h) (fun a b h u => ?_) (fun m hm => ((w.1 i hi).2.2.1 m hm).2.2.1)⟩
    obtain ⟨rfl, rfl⟩ := u
    unfold rgU at h; omega
  · rw [zu_n y]; exact o1 i hi y
theorem y_moveCursor {E : EV} {h : AH} {q : Nat} {A : Nat → Nat} {F : MS'} {s : SQ} (mp : MP h q A F) (rm : RM (zT s) F s) (w : WS' s) (hH : (hop (zH s)).length ≤ 200) {x p : Int32} : Ct E yX9_moveCursor cX9_moveCursor 4 (some .int) 3 0 [.ref q, .int x, .int p] h (fun v h1 => (∃ e i : Nat, e ≤ 1 ∧ x = nI e ∧ p = nI i ∧ i ≤ (eX (zE s e)).length ∧ v = some (.int (nI (eC (zE s e)))) ∧ MR h h1 q A (sCur s e i) 0) ∨ (¬ (x = 0 ∨ x = 1) ∧ (∃ u : Int32, v = some (.int u)) ∧ MR h h1 q A s 1) ∨ (∃ e : Nat, e ≤ 1 ∧ x = nI e ∧ ¬ (0 ≤ p ∧ p ≤ nI (eX (zE s e)).length) ∧ (∃ u : Int32, v = some (.int u)) ∧ MR h h1 q A s 2)) noX := by
  refine Ct_of RX9 (by decide +kernel) rfl (Nat.le_of_ble_eq_true rfl) (fun Γ X nt Q hin => ?_)
  have gm := FM.refl h
  refine V_aload_n (pc := 0) X 0 dX9_moveCursor_0 rfl ?_
  refine V_iconst (pc := 1) (v := 0) X dX9_moveCursor_1 (by decide) ?_
  show V _ _ _ _ _ _ (Value.int (nI 0) :: _)
  refine M_put (pc := 2) X mp (i := 900) (by unfold isS; decide) fl_X9_92 dX9_moveCursor_2 (fun h2 mp2 fm2 => ?_)
  have gm2 := gm.seq fm2
  have rm2 := rm.th w hH (nI 0)
  refine V_iload_n (pc := 5) X 1 dX9_moveCursor_5 rfl ?_
  refine V_callS (pc := 6) X _ m_isEnd cw_X9_140 (Q.room (by decide) (by decide)) rfl (Nat.le_of_ble_eq_true rfl) rfl (by omega) dX9_moveCursor_6 (fun _ _ z => z.elim) ?_
  rintro v6 h6 ⟨rfl, e6⟩
  rw [e6]
  simp only [Option.toList_some, List.cons_append, List.nil_append]
  refine V_if_ne (pc := 9) X 18 dX9_moveCursor_9 (by decide) (fun c9 => ?_) (fun c9 => ?_)
  · have ke : x = 0 ∨ x = 1 := by
      by_cases y : 0 ≤ x ∧ x ≤ 1
      · exact end_iff.mp y
      · rw [if_neg y] at c9; exact absurd rfl c9
    obtain ⟨e, he, rfl⟩ := eq01 ke
    have re := (rm2.1 e he).1
    have ru := (rm2.1 e he).2
    have hx := (w.1 e he).1.1.1
    have tx := re.2.2.2.2.1
    have hX : (eX (zE s e)).length ≤ 200 := (w.1 e he).1.1.1
    refine V_iload_n (pc := 18) X 2 dX9_moveCursor_18 rfl ?_
    refine V_iconst (pc := 19) (v := 0) X dX9_moveCursor_19 (by decide) ?_
    refine V_aload_n (pc := 20) X 0 dX9_moveCursor_20 rfl ?_
    refine V_get (pc := 21) X fl_X9_34 dX9_moveCursor_21 mp2.k (mp2.f 909) ?_
    refine V_iload_n (pc := 24) X 1 dX9_moveCursor_24 rfl ?_
    refine M_ald (pc := 25) X mp2 ⟨by unfold isA; decide, by decide⟩ (by show _ < 3; omega) dX9_moveCursor_25 ?_
    rw [tx.2.1]
    refine V_callS (pc := 26) X _ m_isBetween cw_X9_96 (Q.room (by decide) (by decide)) rfl (Nat.le_of_ble_eq_true rfl) rfl (by omega) dX9_moveCursor_26 (fun _ _ z => z.elim) ?_
    rintro v26 h26 ⟨rfl, e26⟩
    rw [e26]
    simp only [Option.toList_some, List.cons_append, List.nil_append]
    refine V_if_ne (pc := 29) X 38 dX9_moveCursor_29 (by decide) (fun c29 => ?_) (fun c29 => ?_)
    · have kp : (0 ≤ p ∧ p ≤ nI (eX (zE s e)).length) := by
        by_cases y : (0 ≤ p ∧ p ≤ nI (eX (zE s e)).length)
        · exact y
        · rw [if_neg y] at c29; exact absurd rfl c29
      obtain ⟨i, rfl, hil⟩ : ∃ i : Nat, p = nI i ∧ i ≤ (eX (zE s e)).length := by
        obtain ⟨i, hi⟩ : ∃ i : Nat, p.toInt = (i : Int) := ⟨p.toInt.toNat, by have := Int32.le_iff_toInt_le.mp kp.1; have z : (0 : Int32).toInt = 0 := by decide
                                                                              omega⟩
        have h2 := Int32.le_iff_toInt_le.mp kp.2
        rw [nI_toInt (by omega)] at h2
        exact ⟨i, Int32.toInt_inj.mp (by rw [hi, nI_toInt (by omega)]), by omega⟩
      refine V_aload_n (pc := 38) X 0 dX9_moveCursor_38 rfl ?_
      refine V_get (pc := 39) X fl_X9_46 dX9_moveCursor_39 mp2.k (mp2.f 913) ?_
      refine V_iload_n (pc := 42) X 1 dX9_moveCursor_42 rfl ?_
      refine M_ald (pc := 43) X mp2 ⟨by unfold isA; decide, by decide⟩ (by show _ < 2; omega) dX9_moveCursor_43 ?_
      rw [re.2.2.2.2.2.1]
      refine V_istore_n (pc := 44) X [(3, .int _), (0, .ref _), (1, .int _), (2, .int _)] dX9_moveCursor_44 rfl (by decide) rfl ?_
      refine V_aload_n (pc := 45) X 1 dX9_moveCursor_45 rfl ?_
      refine V_get (pc := 46) X fl_X9_46 dX9_moveCursor_46 mp2.k (mp2.f 913) ?_
      refine V_iload_n (pc := 49) X 2 dX9_moveCursor_49 rfl ?_
      refine V_iload_n (pc := 50) X 3 dX9_moveCursor_50 rfl ?_
      refine M_ast (pc := 51) X mp2 ⟨by unfold isA; decide, by decide⟩ (by show _ < 2; omega) dX9_moveCursor_51 (fun h51 mp51 fm51 => ?_)
      have gm51 := gm2.seq fm51
      refine V_iload_n (pc := 52) X 0 dX9_moveCursor_52 rfl ?_
      refine V_iret (pc := 53) X Q rfl rfl dX9_moveCursor_53 ?_
      exact Or.inl ⟨e, i, he, rfl, rfl, hil, rfl, _, mp51, gm51, rm2.cu w hH he i, (fu_i (by decide)).trans fu_s⟩
    · have kp : ¬ (0 ≤ p ∧ p ≤ nI (eX (zE s e)).length) := fun y => by rw [if_pos y] at c29; exact absurd c29 (by decide)
      refine V_aload_n (pc := 32) X 0 dX9_moveCursor_32 rfl ?_
      refine V_iconst (pc := 33) (v := 2) X dX9_moveCursor_33 (by decide) ?_
      show V _ _ _ _ _ _ (Value.int (nI 2) :: _)
      refine V_callV (pc := 34) X clk9 (by decide) mp2.k _ (m_fails mp2 (c := nI 2)) cw_X9_144 (Q.room (by decide) (by decide)) rfl (Nat.le_of_ble_eq_true rfl) rfl (by omega) dX9_moveCursor_34 (fun _ _ z => z.elim) ?_
      rintro v34 h34 ⟨rfl, mp9, fm9⟩
      simp only [Option.toList_some, List.cons_append, List.nil_append]
      refine V_iret (pc := 37) X Q rfl rfl dX9_moveCursor_37 ?_
      exact Or.inr (Or.inr ⟨e, he, rfl, kp, ⟨_, rfl⟩, _, mp9, gm2.seq fm9, rm2.th w hH (nI 2), fu_s⟩)
  · have ke : ¬ (x = 0 ∨ x = 1) := fun y => by rw [if_pos (end_iff.mpr y)] at c9; exact absurd c9 (by decide)
    refine V_aload_n (pc := 12) X 0 dX9_moveCursor_12 rfl ?_
    refine V_iconst (pc := 13) (v := 1) X dX9_moveCursor_13 (by decide) ?_
    show V _ _ _ _ _ _ (Value.int (nI 1) :: _)
    refine V_callV (pc := 14) X clk9 (by decide) mp2.k _ (m_fails mp2 (c := nI 1)) cw_X9_144 (Q.room (by decide) (by decide)) rfl (Nat.le_of_ble_eq_true rfl) rfl (by omega) dX9_moveCursor_14 (fun _ _ z => z.elim) ?_
    rintro v23 h23 ⟨rfl, mp9, fm9⟩
    simp only [Option.toList_some, List.cons_append, List.nil_append]
    refine V_iret (pc := 17) X Q rfl rfl dX9_moveCursor_17 ?_
    exact Or.inr (Or.inl ⟨ke, ⟨_, rfl⟩, _, mp9, gm2.seq fm9, rm2.th w hH (nI 1), fu_s⟩)
