/-! THE MODEL: HISTORY, NUMBERS -/
theorem m_isMessage {E : EV} {h : AH} {q : Nat} {A : Nat → Nat} {F : MS'} {s : SQ} (mp : MP h q A F) (rm : RM (zT s) F s) (w : WS' s) {p : Int32} : Ct E yX9_isMessage cX9_isMessage 2 (some .boolean) 3 0 [.ref q, .int p] h (fun v h1 => v = some (.int (if ¬ p < 0 ∧ p < nI (zH s).length then 1 else 0)) ∧ h1 = h) noX := by
  refine Ct_of RX9 (by decide +kernel) rfl (Nat.le_of_ble_eq_true rfl) (fun Γ X nt Q hin => ?_)
  have hHl := w.2.2.1.1
  refine V_iload_n (pc := 0) X 1 dX9_isMessage_0 rfl ?_
  refine V_iconst (pc := 1) (v := 0) X dX9_isMessage_1 (by decide) ?_
  show V _ _ _ _ _ _ (Value.int (nI 0) :: _)
  refine V_aload_n (pc := 2) X 0 dX9_isMessage_2 rfl ?_
  refine V_get (pc := 3) X fl_X9_169 dX9_isMessage_3 mp.k (mp.s 927) ?_
  rw [rm.2.2.1.1]
  refine V_iconst (pc := 6) (v := 1) X dX9_isMessage_6 (by decide) ?_
  refine V_isub (pc := 7) X dX9_isMessage_7 ?_
  refine V_callS (pc := 8) X _ m_isBetween cw_X9_96 (Q.room (by decide) (by decide)) rfl (Nat.le_of_ble_eq_true rfl) rfl (by omega) dX9_isMessage_8 (fun _ _ z => z.elim) ?_
  rintro v8 h8 ⟨rfl, e8⟩
  rw [e8]
  simp only [Option.toList_some, List.cons_append, List.nil_append]
  refine V_iret (pc := 11) X Q rfl (by split <;> rfl) dX9_isMessage_11 ?_
  refine ⟨?_, rfl⟩
  by_cases y : ¬ p < 0 ∧ p < nI (zH s).length
  · rw [if_pos y, if_pos (show nI 0 ≤ p ∧ p ≤ nI (zH s).length - 1 from (btw_iff (by omega)).mpr y)]
  · rw [if_neg y, if_neg (fun u : nI 0 ≤ p ∧ p ≤ nI (zH s).length - 1 => y ((btw_iff (by omega)).mp u))]
theorem y_historyEnd {E : EV} {h : AH} {q : Nat} {A : Nat → Nat} {F : MS'} {s : SQ} (mp : MP h q A F) (rm : RM (zT s) F s) (w : WS' s) (hH : (hop (zH s)).length ≤ 200) {p : Int32} : Ct E yX9_historyEnd cX9_historyEnd 2 (some .int) 4 0 [.ref q, .int p] h (fun v h1 => (∃ (i : Nat) (g : MG), p = nI i ∧ (zH s)[i]? = some g ∧ v = some (.int (nI g.1)) ∧ MR h h1 q A s 0) ∨ (¬ (¬ p < 0 ∧ p < nI (zH s).length) ∧ (∃ u : Int32, v = some (.int u)) ∧ MR h h1 q A s 1)) noX := by
  refine Ct_of RX9 (by decide +kernel) rfl (Nat.le_of_ble_eq_true rfl) (fun Γ X nt Q hin => ?_)
  have gm := FM.refl h
  refine V_aload_n (pc := 0) X 0 dX9_historyEnd_0 rfl ?_
  refine V_iconst (pc := 1) (v := 0) X dX9_historyEnd_1 (by decide) ?_
  show V _ _ _ _ _ _ (Value.int (nI 0) :: _)
  refine M_put (pc := 2) X mp (i := 900) (by unfold isS; decide) fl_X9_92 dX9_historyEnd_2 (fun h2 mp2 fm2 => ?_)
  have gm2 := gm.seq fm2
  have rm2 := rm.th w hH (nI 0)
  refine V_aload_n (pc := 5) X 0 dX9_historyEnd_5 rfl ?_
  refine V_iload_n (pc := 6) X 1 dX9_historyEnd_6 rfl ?_
  refine V_callV (pc := 7) X clk9 (by decide) mp2.k _ (m_isMessage mp2 rm2 w) cw_X9_206 (Q.room (by decide) (by decide)) rfl (Nat.le_of_ble_eq_true rfl) rfl (by omega) dX9_historyEnd_7 (fun _ _ z => z.elim) ?_
  rintro v7 h7 ⟨rfl, e7⟩
  rw [e7]
  simp only [Option.toList_some, List.cons_append, List.nil_append]
  refine V_if_eq (pc := 10) X 22 dX9_historyEnd_10 (by decide) (fun c10 => ?_) (fun c10 => ?_)
  · have kp : ¬ (¬ p < 0 ∧ p < nI (zH s).length) := fun y => by rw [if_pos y] at c10; exact absurd c10 (by decide)
    refine V_aload_n (pc := 22) X 0 dX9_historyEnd_22 rfl ?_
    refine V_iconst (pc := 23) (v := 1) X dX9_historyEnd_23 (by decide) ?_
    show V _ _ _ _ _ _ (Value.int (nI 1) :: _)
    refine V_callV (pc := 24) X clk9 (by decide) mp2.k _ (m_fails mp2 (c := nI 1)) cw_X9_144 (Q.room (by decide) (by decide)) rfl (Nat.le_of_ble_eq_true rfl) rfl (by omega) dX9_historyEnd_24 (fun _ _ z => z.elim) ?_
    rintro v23 h23 ⟨rfl, mp9, fm9⟩
    simp only [Option.toList_some, List.cons_append, List.nil_append]
    refine V_iret (pc := 27) X Q rfl rfl dX9_historyEnd_27 ?_
    first
    | exact Or.inl ⟨i, g, rfl, hg, rfl, _, mp2, gm2, rm2, fu_s⟩
    | exact Or.inr ⟨kp, ⟨_, rfl⟩, _, mp9, gm2.seq fm9, rm2.th w hH (nI 1), fu_s⟩
  · have kp : ¬ p < 0 ∧ p < nI (zH s).length := by
      by_cases y : ¬ p < 0 ∧ p < nI (zH s).length
      · exact y
      · rw [if_neg y] at c10; exact absurd rfl c10
    have hHl := w.2.2.1.1
    obtain ⟨i, hi, rfl⟩ := nI_of kp.1
    have hil := (nI_ltI (by omega) (by omega)).mp kp.2
    obtain ⟨g, hg⟩ : ∃ g, (zH s)[i]? = some g := ⟨_, List.getElem?_eq_getElem hil⟩
    have hm4 := rm2.2.2.1.2.2.2.1
    have hm5 := rm2.2.2.1.2.2.2.2
    have hm3 := rm2.2.2.1.2.2.1
    have htk := hop_take hg
    have hle := hop_takele (zH s) (i + 1)
    rw [htk, List.length_append] at hle
    refine V_aload_n (pc := 13) X 0 dX9_historyEnd_13 rfl ?_
    refine V_get (pc := 14) X fl_X9_83 dX9_historyEnd_14 mp2.k (mp2.f 925) ?_
    refine V_iload_n (pc := 17) X 1 dX9_historyEnd_17 rfl ?_
    refine M_ald (pc := 18) X mp2 ⟨by unfold isA; decide, by decide⟩ (by show _ < 200; omega) dX9_historyEnd_18 ?_
    rw [hm5 i g hg]
    refine V_goto (pc := 19) X 27 dX9_historyEnd_19 (by decide) ?_
    refine V_iret (pc := 27) X Q rfl rfl dX9_historyEnd_27 ?_
    first
    | exact Or.inl ⟨i, g, rfl, hg, rfl, _, mp2, gm2, rm2, fu_s⟩
    | exact Or.inr ⟨kp, ⟨_, rfl⟩, _, mp9, gm2.seq fm9, rm2.th w hH (nI 1), fu_s⟩
theorem y_historySize {E : EV} {h : AH} {q : Nat} {A : Nat → Nat} {F : MS'} {s : SQ} (mp : MP h q A F) (rm : RM (zT s) F s) (w : WS' s) (hH : (hop (zH s)).length ≤ 200) {p : Int32} : Ct E yX9_historySize cX9_historySize 2 (some .int) 4 0 [.ref q, .int p] h (fun v h1 => (∃ (i : Nat) (g : MG), p = nI i ∧ (zH s)[i]? = some g ∧ v = some (.int (nI g.2.2.length)) ∧ MR h h1 q A s 0) ∨ (¬ (¬ p < 0 ∧ p < nI (zH s).length) ∧ (∃ u : Int32, v = some (.int u)) ∧ MR h h1 q A s 1)) noX := by
  refine Ct_of RX9 (by decide +kernel) rfl (Nat.le_of_ble_eq_true rfl) (fun Γ X nt Q hin => ?_)
  have gm := FM.refl h
  refine V_aload_n (pc := 0) X 0 dX9_historySize_0 rfl ?_
  refine V_iconst (pc := 1) (v := 0) X dX9_historySize_1 (by decide) ?_
  show V _ _ _ _ _ _ (Value.int (nI 0) :: _)
  refine M_put (pc := 2) X mp (i := 900) (by unfold isS; decide) fl_X9_92 dX9_historySize_2 (fun h2 mp2 fm2 => ?_)
  have gm2 := gm.seq fm2
  have rm2 := rm.th w hH (nI 0)
  refine V_aload_n (pc := 5) X 0 dX9_historySize_5 rfl ?_
  refine V_iload_n (pc := 6) X 1 dX9_historySize_6 rfl ?_
  refine V_callV (pc := 7) X clk9 (by decide) mp2.k _ (m_isMessage mp2 rm2 w) cw_X9_206 (Q.room (by decide) (by decide)) rfl (Nat.le_of_ble_eq_true rfl) rfl (by omega) dX9_historySize_7 (fun _ _ z => z.elim) ?_
  rintro v7 h7 ⟨rfl, e7⟩
  rw [e7]
  simp only [Option.toList_some, List.cons_append, List.nil_append]
  refine V_if_eq (pc := 10) X 31 dX9_historySize_10 (by decide) (fun c10 => ?_) (fun c10 => ?_)
  · have kp : ¬ (¬ p < 0 ∧ p < nI (zH s).length) := fun y => by rw [if_pos y] at c10; exact absurd c10 (by decide)
    refine V_aload_n (pc := 31) X 0 dX9_historySize_31 rfl ?_
    refine V_iconst (pc := 32) (v := 1) X dX9_historySize_32 (by decide) ?_
    show V _ _ _ _ _ _ (Value.int (nI 1) :: _)
    refine V_callV (pc := 33) X clk9 (by decide) mp2.k _ (m_fails mp2 (c := nI 1)) cw_X9_144 (Q.room (by decide) (by decide)) rfl (Nat.le_of_ble_eq_true rfl) rfl (by omega) dX9_historySize_33 (fun _ _ z => z.elim) ?_
    rintro v23 h23 ⟨rfl, mp9, fm9⟩
    simp only [Option.toList_some, List.cons_append, List.nil_append]
    refine V_iret (pc := 36) X Q rfl rfl dX9_historySize_36 ?_
    first
    | exact Or.inl ⟨i, g, rfl, hg, rfl, _, mp2, gm2, rm2, fu_s⟩
    | exact Or.inr ⟨kp, ⟨_, rfl⟩, _, mp9, gm2.seq fm9, rm2.th w hH (nI 1), fu_s⟩
  · have kp : ¬ p < 0 ∧ p < nI (zH s).length := by
      by_cases y : ¬ p < 0 ∧ p < nI (zH s).length
      · exact y
      · rw [if_neg y] at c10; exact absurd rfl c10
    have hHl := w.2.2.1.1
    obtain ⟨i, hi, rfl⟩ := nI_of kp.1
    have hil := (nI_ltI (by omega) (by omega)).mp kp.2
    obtain ⟨g, hg⟩ : ∃ g, (zH s)[i]? = some g := ⟨_, List.getElem?_eq_getElem hil⟩
    have hm4 := rm2.2.2.1.2.2.2.1
    have hm5 := rm2.2.2.1.2.2.2.2
    have hm3 := rm2.2.2.1.2.2.1
    have htk := hop_take hg
    have hle := hop_takele (zH s) (i + 1)
    rw [htk, List.length_append] at hle
    refine V_aload_n (pc := 13) X 0 dX9_historySize_13 rfl ?_
    refine V_get (pc := 14) X fl_X9_80 dX9_historySize_14 mp2.k (mp2.f 924) ?_
    refine V_iload_n (pc := 17) X 1 dX9_historySize_17 rfl ?_
    refine V_iconst (pc := 18) (v := 1) X dX9_historySize_18 (by decide) ?_
    show V _ _ _ _ _ _ (Value.int (nI 1) :: _)
    refine V_iadd (pc := 19) X dX9_historySize_19 ?_
    rw [nI_add]
    refine M_ald (pc := 20) X mp2 ⟨by unfold isA; decide, by decide⟩ (by show _ < 201; omega) dX9_historySize_20 ?_
    rw [hm4 _ (by omega), htk, List.length_append]
    refine V_aload_n (pc := 21) X 0 dX9_historySize_21 rfl ?_
    refine V_get (pc := 22) X fl_X9_80 dX9_historySize_22 mp2.k (mp2.f 924) ?_
    refine V_iload_n (pc := 25) X 1 dX9_historySize_25 rfl ?_
    refine M_ald (pc := 26) X mp2 ⟨by unfold isA; decide, by decide⟩ (by show _ < 201; omega) dX9_historySize_26 ?_
    rw [hm4 _ (by omega)]
    refine V_isub (pc := 27) X dX9_historySize_27 ?_
    rw [pk_sub (by omega)]
    rw [Nat.add_sub_cancel_left]
    refine V_goto (pc := 28) X 36 dX9_historySize_28 (by decide) ?_
    refine V_iret (pc := 36) X Q rfl rfl dX9_historySize_36 ?_
    first
    | exact Or.inl ⟨i, g, rfl, hg, rfl, _, mp2, gm2, rm2, fu_s⟩
    | exact Or.inr ⟨kp, ⟨_, rfl⟩, _, mp9, gm2.seq fm9, rm2.th w hH (nI 1), fu_s⟩
theorem m_notOf {E : EV} {h : AH} {q : Nat} {A : Nat → Nat} {F : MS'} {s : SQ} (mp : MP h q A F) (rm : RM (zT s) F s) (w : WS' s) (hH : (hop (zH s)).length ≤ 200) {p r : Int32} : Ct E yX9_notOf cX9_notOf 3 (some .int) 4 0 [.ref q, .int p, .int r] h (fun v h1 => ((∃ (i j : Nat) (g : MG) (o : SO), p = nI i ∧ r = nI j ∧ (zH s)[i]? = some g ∧ g.2.2[j]? = some o ∧ v = some (.int 0)) ∨ (¬ (¬ p < 0 ∧ p < nI (zH s).length) ∧ v = some (.int (nI 1))) ∨ (∃ (i : Nat) (g : MG), p = nI i ∧ (zH s)[i]? = some g ∧ ¬ (¬ r < 0 ∧ r < nI g.2.2.length) ∧ v = some (.int (nI 2)))) ∧ h1 = h) noX := by
  refine Ct_of RX9 (by decide +kernel) rfl (Nat.le_of_ble_eq_true rfl) (fun Γ X nt Q hin => ?_)
  refine V_aload_n (pc := 0) X 0 dX9_notOf_0 rfl ?_
  refine V_iload_n (pc := 1) X 1 dX9_notOf_1 rfl ?_
  refine V_callV (pc := 2) X clk9 (by decide) mp.k _ (m_isMessage mp rm w) cw_X9_206 (Q.room (by decide) (by decide)) rfl (Nat.le_of_ble_eq_true rfl) rfl (by omega) dX9_notOf_2 (fun _ _ z => z.elim) ?_
  rintro v2 h2 ⟨rfl, e2⟩
  rw [e2]
  simp only [Option.toList_some, List.cons_append, List.nil_append]
  refine V_if_ne (pc := 5) X 10 dX9_notOf_5 (by decide) (fun c5 => ?_) (fun c5 => ?_)
  · have kp : ¬ p < 0 ∧ p < nI (zH s).length := by
      by_cases y : ¬ p < 0 ∧ p < nI (zH s).length
      · exact y
      · rw [if_neg y] at c5; exact absurd rfl c5
    have hHl := w.2.2.1.1
    obtain ⟨i, hi, rfl⟩ := nI_of kp.1
    have hil := (nI_ltI (by omega) (by omega)).mp kp.2
    obtain ⟨g, hg⟩ : ∃ g, (zH s)[i]? = some g := ⟨_, List.getElem?_eq_getElem hil⟩
    have hm4 := rm.2.2.1.2.2.2.1
    have hm5 := rm.2.2.1.2.2.2.2
    have hm3 := rm.2.2.1.2.2.1
    have htk := hop_take hg
    have hle := hop_takele (zH s) (i + 1)
    rw [htk, List.length_append] at hle
    refine V_iload_n (pc := 10) X 2 dX9_notOf_10 rfl ?_
    refine V_iconst (pc := 11) (v := 0) X dX9_notOf_11 (by decide) ?_
    show V _ _ _ _ _ _ (Value.int (nI 0) :: _)
    refine V_aload_n (pc := 12) X 0 dX9_notOf_12 rfl ?_
    refine V_get (pc := 13) X fl_X9_80 dX9_notOf_13 mp.k (mp.f 924) ?_
    refine V_iload_n (pc := 16) X 1 dX9_notOf_16 rfl ?_
    refine V_iconst (pc := 17) (v := 1) X dX9_notOf_17 (by decide) ?_
    show V _ _ _ _ _ _ (Value.int (nI 1) :: _)
    refine V_iadd (pc := 18) X dX9_notOf_18 ?_
    rw [nI_add]
    refine M_ald (pc := 19) X mp ⟨by unfold isA; decide, by decide⟩ (by show _ < 201; omega) dX9_notOf_19 ?_
    rw [hm4 _ (by omega), htk, List.length_append]
    refine V_aload_n (pc := 20) X 0 dX9_notOf_20 rfl ?_
    refine V_get (pc := 21) X fl_X9_80 dX9_notOf_21 mp.k (mp.f 924) ?_
    refine V_iload_n (pc := 24) X 1 dX9_notOf_24 rfl ?_
    refine M_ald (pc := 25) X mp ⟨by unfold isA; decide, by decide⟩ (by show _ < 201; omega) dX9_notOf_25 ?_
    rw [hm4 _ (by omega)]
    refine V_isub (pc := 26) X dX9_notOf_26 ?_
    rw [pk_sub (by omega)]
    rw [Nat.add_sub_cancel_left]
    refine V_iconst (pc := 27) (v := 1) X dX9_notOf_27 (by decide) ?_
    refine V_isub (pc := 28) X dX9_notOf_28 ?_
    refine V_callS (pc := 29) X _ m_isBetween cw_X9_96 (Q.room (by decide) (by decide)) rfl (Nat.le_of_ble_eq_true rfl) rfl (by omega) dX9_notOf_29 (fun _ _ z => z.elim) ?_
    rintro v29 h29 ⟨rfl, e29⟩
    rw [e29]
    simp only [Option.toList_some, List.cons_append, List.nil_append]
    refine V_if_eq (pc := 32) X 39 dX9_notOf_32 (by decide) (fun c32 => ?_) (fun c32 => ?_)
    · have kr : ¬ (¬ r < 0 ∧ r < nI g.2.2.length) := fun y => by rw [if_pos (show nI 0 ≤ r ∧ r ≤ nI g.2.2.length - 1 from (btw_iff (by omega)).mpr y)] at c32; exact absurd c32 (by decide)
      refine V_iconst (pc := 39) (v := 2) X dX9_notOf_39 (by decide) ?_
      show V _ _ _ _ _ _ (Value.int (nI 2) :: _)
      refine V_iret (pc := 40) X Q rfl rfl dX9_notOf_40 ?_
      first
      | exact ⟨Or.inl ⟨i, j, g, o, rfl, rfl, hg, ho, rfl⟩, rfl⟩
      | exact ⟨Or.inr (Or.inr ⟨i, g, rfl, hg, kr, rfl⟩), rfl⟩
    · have kr : ¬ r < 0 ∧ r < nI g.2.2.length := by
        by_cases y : nI 0 ≤ r ∧ r ≤ nI g.2.2.length - 1
        · exact (btw_iff (by omega)).mp y
        · rw [if_neg y] at c32; exact absurd rfl c32
      obtain ⟨j, hj, rfl⟩ := nI_of kr.1
      have hjl := (nI_ltI (by omega) (by omega)).mp kr.2
      obtain ⟨o, ho⟩ : ∃ o, g.2.2[j]? = some o := ⟨_, List.getElem?_eq_getElem hjl⟩
      refine V_iconst (pc := 35) (v := 0) X dX9_notOf_35 (by decide) ?_
      show V _ _ _ _ _ _ (Value.int (nI 0) :: _)
      refine V_goto (pc := 36) X 40 dX9_notOf_36 (by decide) ?_
      refine V_iret (pc := 40) X Q rfl rfl dX9_notOf_40 ?_
      first
      | exact ⟨Or.inl ⟨i, j, g, o, rfl, rfl, hg, ho, rfl⟩, rfl⟩
      | exact ⟨Or.inr (Or.inr ⟨i, g, rfl, hg, kr, rfl⟩), rfl⟩
  · have kp : ¬ (¬ p < 0 ∧ p < nI (zH s).length) := fun y => by rw [if_pos y] at c5; exact absurd c5 (by decide)
    refine V_iconst (pc := 8) (v := 1) X dX9_notOf_8 (by decide) ?_
    show V _ _ _ _ _ _ (Value.int (nI 1) :: _)
    refine V_iret (pc := 9) X Q rfl rfl dX9_notOf_9 ?_
    exact ⟨Or.inr (Or.inl ⟨kp, rfl⟩), rfl⟩
theorem y_historyKind {E : EV} {h : AH} {q : Nat} {A : Nat → Nat} {F : MS'} {s : SQ} (mp : MP h q A F) (rm : RM (zT s) F s) (w : WS' s) (hH : (hop (zH s)).length ≤ 200) {p r : Int32} : Ct E yX9_historyKind cX9_historyKind 5 (some .char) 5 0 [.ref q, .int p, .int r] h (fun v h1 => (∃ (i j : Nat) (g : MG) (o : SO), p = nI i ∧ r = nI j ∧ (zH s)[i]? = some g ∧ g.2.2[j]? = some o ∧ v = some (.int (kc o.1)) ∧ MR h h1 q A s 0) ∨ (¬ (¬ p < 0 ∧ p < nI (zH s).length) ∧ (∃ u : Int32, v = some (.int u)) ∧ MR h h1 q A s 1) ∨ (∃ (i : Nat) (g : MG), p = nI i ∧ (zH s)[i]? = some g ∧ ¬ (¬ r < 0 ∧ r < nI g.2.2.length) ∧ (∃ u : Int32, v = some (.int u)) ∧ MR h h1 q A s 2)) noX := by
  refine Ct_of RX9 (by decide +kernel) rfl (Nat.le_of_ble_eq_true rfl) (fun Γ X nt Q hin => ?_)
  have gm := FM.refl h
  refine V_aload_n (pc := 0) X 0 dX9_historyKind_0 rfl ?_
  refine V_iconst (pc := 1) (v := 0) X dX9_historyKind_1 (by decide) ?_
  show V _ _ _ _ _ _ (Value.int (nI 0) :: _)
  refine M_put (pc := 2) X mp (i := 900) (by unfold isS; decide) fl_X9_92 dX9_historyKind_2 (fun h2 mp2 fm2 => ?_)
  have gm2 := gm.seq fm2
  have rm2 := rm.th w hH (nI 0)
  refine V_aload_n (pc := 5) X 0 dX9_historyKind_5 rfl ?_
  refine V_iload_n (pc := 6) X 1 dX9_historyKind_6 rfl ?_
  refine V_iload_n (pc := 7) X 2 dX9_historyKind_7 rfl ?_
  refine V_callV (pc := 8) X clk9 (by decide) mp2.k _ (m_notOf mp2 rm2 w hH) cw_X9_209 (Q.room (by decide) (by decide)) rfl (Nat.le_of_ble_eq_true rfl) rfl (by omega) dX9_historyKind_8 (fun _ _ z => z.elim) ?_
  rintro v8 h8 ⟨d8, e8⟩
  rw [e8]
  obtain ⟨cw, rfl, hcw⟩ : ∃ cw : Nat, v8 = some (.int (nI cw)) ∧ ((cw = 0 ∧ ∃ (i j : Nat) (g : MG) (o : SO), p = nI i ∧ r = nI j ∧ (zH s)[i]? = some g ∧ g.2.2[j]? = some o) ∨ (cw = 1 ∧ ¬ (¬ p < 0 ∧ p < nI (zH s).length)) ∨ (cw = 2 ∧ ∃ (i : Nat) (g : MG), p = nI i ∧ (zH s)[i]? = some g ∧ ¬ (¬ r < 0 ∧ r < nI g.2.2.length))) := by
    rcases d8 with ⟨i, j, g, o, a, b, c, d, f⟩ | ⟨a, b⟩ | ⟨i, g, a, b, c, d⟩
    · exact ⟨0, f, Or.inl ⟨rfl, i, j, g, o, a, b, c, d⟩⟩
    · exact ⟨1, b, Or.inr (Or.inl ⟨rfl, a⟩)⟩
    · exact ⟨2, d, Or.inr (Or.inr ⟨rfl, i, g, a, b, c⟩)⟩
  simp only [Option.toList_some, List.cons_append, List.nil_append]
  refine V_istore_n (pc := 11) X [(3, .int _), (0, .ref _), (1, .int _), (2, .int _)] dX9_historyKind_11 rfl (by decide) rfl ?_
  refine V_iload_n (pc := 12) X 0 dX9_historyKind_12 rfl ?_
  refine V_if_eq (pc := 13) X 23 dX9_historyKind_13 (by decide) (fun c13 => ?_) (fun c13 => ?_)
  · obtain ⟨i, j, g, o, rfl, rfl, hg, ho⟩ : ∃ (i j : Nat) (g : MG) (o : SO), p = nI i ∧ r = nI j ∧ (zH s)[i]? = some g ∧ g.2.2[j]? = some o := by
      rcases hcw with ⟨-, a⟩ | ⟨a, -⟩ | ⟨a, -⟩
      · exact a
      · rw [a] at c13; exact absurd c13 (by decide)
      · rw [a] at c13; exact absurd c13 (by decide)
    have hil := (List.getElem?_eq_some_iff.mp hg).1
    have hjl := (List.getElem?_eq_some_iff.mp ho).1
    have hHl := w.2.2.1.1
    have hm4 := rm2.2.2.1.2.2.2.1
    have hm3 := rm2.2.2.1.2.2.1
    have htk := hop_take hg
    have hle := hop_takele (zH s) (i + 1)
    rw [htk, List.length_append] at hle
    have hflat : (hop (zH s))[(hop ((zH s).take i)).length + j]? = some o := by
      have e0 : hop (zH s) = hop ((zH s).take i) ++ (g.2.2 ++ hop ((zH s).drop (i + 1))) := by
        have : zH s = (zH s).take i ++ (g :: (zH s).drop (i + 1)) := by rw [← drop_at hg, List.take_append_drop]
        exact (congrArg hop this).trans (hop_app _ _)
      rw [e0, List.getElem?_append_right (by omega), show (hop ((zH s).take i)).length + j - (hop ((zH s).take i)).length = j by omega, List.getElem?_append_left hjl]
      exact ho
    have so : SL (zT s) (fu F 900 0 (nI 0)) (1200 + (hop ((zH s).take i)).length + j) o := by have := hm3 _ o hflat; rwa [← Nat.add_assoc] at this
    have o2 := so.1
    refine V_aload_n (pc := 23) X 1 dX9_historyKind_23 rfl ?_
    refine V_get (pc := 24) X fl_X9_7 dX9_historyKind_24 mp2.k (mp2.f 901) ?_
    refine V_sipush (pc := 27) (v := 1200) X dX9_historyKind_27 (by decide) ?_
    show V _ _ _ _ _ _ (Value.int (nI 1200) :: _)
    refine V_aload_n (pc := 30) X 1 dX9_historyKind_30 rfl ?_
    refine V_get (pc := 31) X fl_X9_80 dX9_historyKind_31 mp2.k (mp2.f 924) ?_
    refine V_iload_n (pc := 34) X 2 dX9_historyKind_34 rfl ?_
    refine M_ald (pc := 35) X mp2 ⟨by unfold isA; decide, by decide⟩ (by show _ < 201; omega) dX9_historyKind_35 ?_
    rw [hm4 _ (by omega)]
    refine V_iadd (pc := 36) X dX9_historyKind_36 ?_
    rw [nI_add]
    refine V_iload_n (pc := 37) X 3 dX9_historyKind_37 rfl ?_
    refine V_iadd (pc := 38) X dX9_historyKind_38 ?_
    rw [nI_add]
    refine M_ald (pc := 39) X mp2 ⟨by unfold isA; decide, by decide⟩ (by show _ < 1401; omega) dX9_historyKind_39 ?_
    rw [so.2.1]
    refine V_istore (pc := 40) X [(4, .int _), (3, .int _), (0, .ref _), (1, .int _), (2, .int _)] dX9_historyKind_40 (by decide) rfl ?_
    refine V_iload (pc := 42) X 0 dX9_historyKind_42 rfl ?_
    refine V_iconst (pc := 44) (v := 1) X dX9_historyKind_44 (by decide) ?_
    show V _ _ _ _ _ _ (Value.int (nI 1) :: _)
    refine V_icmp_ne (pc := 45) X 53 dX9_historyKind_45 (by decide) (fun c45 => ?_) (fun c45 => ?_)
    · have k45 : ¬ o.1 = 1 := fun y => c45 (by rw [y])
      refine V_iload (pc := 53) X 0 dX9_historyKind_53 rfl ?_
      refine V_iconst (pc := 55) (v := 2) X dX9_historyKind_55 (by decide) ?_
      show V _ _ _ _ _ _ (Value.int (nI 2) :: _)
      refine V_icmp_ne (pc := 56) X 64 dX9_historyKind_56 (by decide) (fun c56 => ?_) (fun c56 => ?_)
      · have k56 : o.1 = 0 := by
          have : ¬ o.1 = 2 := fun y => c56 (by rw [y])
          omega
        have ek : kc o.1 = 110 := (kc_0 o2).mpr k56
        refine V_bipush (pc := 64) (v := 110) X dX9_historyKind_64 (by decide) ?_
        show V _ _ _ _ _ _ (Value.int (nI 110) :: _)
        refine V_iret (pc := 66) X Q rfl (by decide) dX9_historyKind_66 ?_
        exact Or.inl ⟨i, j, g, o, rfl, rfl, hg, ho, by rw [ek]; rfl, _, mp2, gm2, rm2, fu_s⟩
      · have k56 : o.1 = 2 := (nI_eq (by omega) (by decide)).mp c56
        have ek : kc o.1 = 100 := (kc_2 o.1).mpr k56
        refine V_bipush (pc := 59) (v := 100) X dX9_historyKind_59 (by decide) ?_
        show V _ _ _ _ _ _ (Value.int (nI 100) :: _)
        refine V_goto (pc := 61) X 66 dX9_historyKind_61 (by decide) ?_
        refine V_iret (pc := 66) X Q rfl (by decide) dX9_historyKind_66 ?_
        exact Or.inl ⟨i, j, g, o, rfl, rfl, hg, ho, by rw [ek]; rfl, _, mp2, gm2, rm2, fu_s⟩
    · have k45 : o.1 = 1 := (nI_eq (by omega) (by decide)).mp c45
      have ek : kc o.1 = 105 := (kc_1 o.1).mpr k45
      refine V_bipush (pc := 48) (v := 105) X dX9_historyKind_48 (by decide) ?_
      show V _ _ _ _ _ _ (Value.int (nI 105) :: _)
      refine V_goto (pc := 50) X 66 dX9_historyKind_50 (by decide) ?_
      refine V_iret (pc := 66) X Q rfl (by decide) dX9_historyKind_66 ?_
      exact Or.inl ⟨i, j, g, o, rfl, rfl, hg, ho, by rw [ek]; rfl, _, mp2, gm2, rm2, fu_s⟩
  · have hc0 : cw ≠ 0 := fun y => c13 (by rw [y]; rfl)
    have fin : ∀ (v : Option Value) (h9 : AH) (F9 : MS'), (∃ u : Int32, v = some (.int u)) → MP h9 q A F9 → FM h h9 → F9 = fu (fu F 900 0 (nI 0)) 900 0 (nI cw) → (¬ (¬ p < 0 ∧ p < nI (zH s).length) ∧ (∃ u : Int32, v = some (.int u)) ∧ MR h h9 q A s 1) ∨ (∃ (i : Nat) (g : MG), p = nI i ∧ (zH s)[i]? = some g ∧ ¬ (¬ r < 0 ∧ r < nI g.2.2.length) ∧ (∃ u : Int32, v = some (.int u)) ∧ MR h h9 q A s 2) := fun v h9 F9 hv hmp hfm hF => by
      rcases hcw with ⟨a, -⟩ | ⟨a, b⟩ | ⟨a, e, b1, b2, b3, b4⟩
      · exact absurd a hc0
      · subst hF; subst a; exact Or.inl ⟨b, hv, _, hmp, hfm, rm2.th w hH _, fu_s⟩
      · subst hF; subst a; exact Or.inr ⟨e, b1, b2, b3, b4, hv, _, hmp, hfm, rm2.th w hH _, fu_s⟩
    refine V_aload_n (pc := 16) X 1 dX9_historyKind_16 rfl ?_
    refine V_iload_n (pc := 17) X 0 dX9_historyKind_17 rfl ?_
    refine V_callV (pc := 18) X clk9 (by decide) mp2.k _ (m_fails mp2 (c := nI cw)) cw_X9_144 (Q.room (by decide) (by decide)) rfl (Nat.le_of_ble_eq_true rfl) rfl (by omega) dX9_historyKind_18 (fun _ _ z => z.elim) ?_
    rintro v18 h18 ⟨rfl, mp9, fm9⟩
    simp only [Option.toList_some, List.cons_append, List.nil_append]
    refine V_i2c (pc := 21) X dX9_historyKind_21 ?_
    refine V_iret (pc := 22) X Q rfl (chr_any _) dX9_historyKind_22 ?_
    exact Or.inr (fin _ _ _ ⟨_, rfl⟩ mp9 (gm2.seq fm9) rfl)
theorem y_historyPosition {E : EV} {h : AH} {q : Nat} {A : Nat → Nat} {F : MS'} {s : SQ} (mp : MP h q A F) (rm : RM (zT s) F s) (w : WS' s) (hH : (hop (zH s)).length ≤ 200) {p r : Int32} : Ct E yX9_historyPosition cX9_historyPosition 5 (some .int) 5 0 [.ref q, .int p, .int r] h (fun v h1 => (∃ (i j : Nat) (g : MG) (o : SO), p = nI i ∧ r = nI j ∧ (zH s)[i]? = some g ∧ g.2.2[j]? = some o ∧ v = some (.int (ps o.1 o.2.1)) ∧ MR h h1 q A s 0) ∨ (¬ (¬ p < 0 ∧ p < nI (zH s).length) ∧ (∃ u : Int32, v = some (.int u)) ∧ MR h h1 q A s 1) ∨ (∃ (i : Nat) (g : MG), p = nI i ∧ (zH s)[i]? = some g ∧ ¬ (¬ r < 0 ∧ r < nI g.2.2.length) ∧ (∃ u : Int32, v = some (.int u)) ∧ MR h h1 q A s 2)) noX := by
  refine Ct_of RX9 (by decide +kernel) rfl (Nat.le_of_ble_eq_true rfl) (fun Γ X nt Q hin => ?_)
  have gm := FM.refl h
  refine V_aload_n (pc := 0) X 0 dX9_historyPosition_0 rfl ?_
  refine V_iconst (pc := 1) (v := 0) X dX9_historyPosition_1 (by decide) ?_
  show V _ _ _ _ _ _ (Value.int (nI 0) :: _)
  refine M_put (pc := 2) X mp (i := 900) (by unfold isS; decide) fl_X9_92 dX9_historyPosition_2 (fun h2 mp2 fm2 => ?_)
  have gm2 := gm.seq fm2
  have rm2 := rm.th w hH (nI 0)
  refine V_aload_n (pc := 5) X 0 dX9_historyPosition_5 rfl ?_
  refine V_iload_n (pc := 6) X 1 dX9_historyPosition_6 rfl ?_
  refine V_iload_n (pc := 7) X 2 dX9_historyPosition_7 rfl ?_
  refine V_callV (pc := 8) X clk9 (by decide) mp2.k _ (m_notOf mp2 rm2 w hH) cw_X9_209 (Q.room (by decide) (by decide)) rfl (Nat.le_of_ble_eq_true rfl) rfl (by omega) dX9_historyPosition_8 (fun _ _ z => z.elim) ?_
  rintro v8 h8 ⟨d8, e8⟩
  rw [e8]
  obtain ⟨cw, rfl, hcw⟩ : ∃ cw : Nat, v8 = some (.int (nI cw)) ∧ ((cw = 0 ∧ ∃ (i j : Nat) (g : MG) (o : SO), p = nI i ∧ r = nI j ∧ (zH s)[i]? = some g ∧ g.2.2[j]? = some o) ∨ (cw = 1 ∧ ¬ (¬ p < 0 ∧ p < nI (zH s).length)) ∨ (cw = 2 ∧ ∃ (i : Nat) (g : MG), p = nI i ∧ (zH s)[i]? = some g ∧ ¬ (¬ r < 0 ∧ r < nI g.2.2.length))) := by
    rcases d8 with ⟨i, j, g, o, a, b, c, d, f⟩ | ⟨a, b⟩ | ⟨i, g, a, b, c, d⟩
    · exact ⟨0, f, Or.inl ⟨rfl, i, j, g, o, a, b, c, d⟩⟩
    · exact ⟨1, b, Or.inr (Or.inl ⟨rfl, a⟩)⟩
    · exact ⟨2, d, Or.inr (Or.inr ⟨rfl, i, g, a, b, c⟩)⟩
  simp only [Option.toList_some, List.cons_append, List.nil_append]
  refine V_istore_n (pc := 11) X [(3, .int _), (0, .ref _), (1, .int _), (2, .int _)] dX9_historyPosition_11 rfl (by decide) rfl ?_
  refine V_iload_n (pc := 12) X 0 dX9_historyPosition_12 rfl ?_
  refine V_if_eq (pc := 13) X 22 dX9_historyPosition_13 (by decide) (fun c13 => ?_) (fun c13 => ?_)
  · obtain ⟨i, j, g, o, rfl, rfl, hg, ho⟩ : ∃ (i j : Nat) (g : MG) (o : SO), p = nI i ∧ r = nI j ∧ (zH s)[i]? = some g ∧ g.2.2[j]? = some o := by
      rcases hcw with ⟨-, a⟩ | ⟨a, -⟩ | ⟨a, -⟩
      · exact a
      · rw [a] at c13; exact absurd c13 (by decide)
      · rw [a] at c13; exact absurd c13 (by decide)
    have hil := (List.getElem?_eq_some_iff.mp hg).1
    have hjl := (List.getElem?_eq_some_iff.mp ho).1
    have hHl := w.2.2.1.1
    have hm4 := rm2.2.2.1.2.2.2.1
    have hm3 := rm2.2.2.1.2.2.1
    have htk := hop_take hg
    have hle := hop_takele (zH s) (i + 1)
    rw [htk, List.length_append] at hle
    have hflat : (hop (zH s))[(hop ((zH s).take i)).length + j]? = some o := by
      have e0 : hop (zH s) = hop ((zH s).take i) ++ (g.2.2 ++ hop ((zH s).drop (i + 1))) := by
        have : zH s = (zH s).take i ++ (g :: (zH s).drop (i + 1)) := by rw [← drop_at hg, List.take_append_drop]
        exact (congrArg hop this).trans (hop_app _ _)
      rw [e0, List.getElem?_append_right (by omega), show (hop ((zH s).take i)).length + j - (hop ((zH s).take i)).length = j by omega, List.getElem?_append_left hjl]
      exact ho
    have so : SL (zT s) (fu F 900 0 (nI 0)) (1200 + (hop ((zH s).take i)).length + j) o := by have := hm3 _ o hflat; rwa [← Nat.add_assoc] at this
    have o2 := so.1
    refine V_sipush (pc := 22) (v := 1200) X dX9_historyPosition_22 (by decide) ?_
    show V _ _ _ _ _ _ (Value.int (nI 1200) :: _)
    refine V_aload_n (pc := 25) X 1 dX9_historyPosition_25 rfl ?_
    refine V_get (pc := 26) X fl_X9_80 dX9_historyPosition_26 mp2.k (mp2.f 924) ?_
    refine V_iload_n (pc := 29) X 2 dX9_historyPosition_29 rfl ?_
    refine M_ald (pc := 30) X mp2 ⟨by unfold isA; decide, by decide⟩ (by show _ < 201; omega) dX9_historyPosition_30 ?_
    rw [hm4 _ (by omega)]
    refine V_iadd (pc := 31) X dX9_historyPosition_31 ?_
    rw [nI_add]
    refine V_iload_n (pc := 32) X 3 dX9_historyPosition_32 rfl ?_
    refine V_iadd (pc := 33) X dX9_historyPosition_33 ?_
    rw [nI_add]
    refine V_istore (pc := 34) X [(4, .int _), (3, .int _), (0, .ref _), (1, .int _), (2, .int _)] dX9_historyPosition_34 (by decide) rfl ?_
    refine V_aload_n (pc := 36) X 2 dX9_historyPosition_36 rfl ?_
    refine V_get (pc := 37) X fl_X9_7 dX9_historyPosition_37 mp2.k (mp2.f 901) ?_
    refine V_iload (pc := 40) X 0 dX9_historyPosition_40 rfl ?_
    refine M_ald (pc := 42) X mp2 ⟨by unfold isA; decide, by decide⟩ (by show _ < 1401; omega) dX9_historyPosition_42 ?_
    rw [so.2.1]
    refine V_if_ne (pc := 43) X 50 dX9_historyPosition_43 (by decide) (fun c43 => ?_) (fun c43 => ?_)
    · have k43 : o.1 ≠ 0 := fun y => c43 (by rw [y]; rfl)
      refine V_aload_n (pc := 50) X 2 dX9_historyPosition_50 rfl ?_
      refine V_get (pc := 51) X fl_X9_13 dX9_historyPosition_51 mp2.k (mp2.f 902) ?_
      refine V_iload (pc := 54) X 0 dX9_historyPosition_54 rfl ?_
      refine M_ald (pc := 56) X mp2 ⟨by unfold isA; decide, by decide⟩ (by show _ < 1401; omega) dX9_historyPosition_56 ?_
      rw [so.2.2.1 k43]
      refine V_iret (pc := 57) X Q rfl rfl dX9_historyPosition_57 ?_
      first
      | exact Or.inl ⟨i, j, g, o, rfl, rfl, hg, ho, by rw [ps_p _ k43], _, mp2, gm2, rm2, fu_s⟩
      | exact Or.inl ⟨i, j, g, o, rfl, rfl, hg, ho, by rw [k43]; rfl, _, mp2, gm2, rm2, fu_s⟩
    · have k43 : o.1 = 0 := (nI_eq (b := 0) (by omega) (by decide)).mp c43
      refine V_iconst (pc := 46) (v := (-1)) X dX9_historyPosition_46 (by decide) ?_
      refine V_goto (pc := 47) X 57 dX9_historyPosition_47 (by decide) ?_
      refine V_iret (pc := 57) X Q rfl rfl dX9_historyPosition_57 ?_
      first
      | exact Or.inl ⟨i, j, g, o, rfl, rfl, hg, ho, by rw [ps_p _ k43], _, mp2, gm2, rm2, fu_s⟩
      | exact Or.inl ⟨i, j, g, o, rfl, rfl, hg, ho, by rw [k43]; rfl, _, mp2, gm2, rm2, fu_s⟩
  · have hc0 : cw ≠ 0 := fun y => c13 (by rw [y]; rfl)
    have fin : ∀ (v : Option Value) (h9 : AH) (F9 : MS'), (∃ u : Int32, v = some (.int u)) → MP h9 q A F9 → FM h h9 → F9 = fu (fu F 900 0 (nI 0)) 900 0 (nI cw) → (¬ (¬ p < 0 ∧ p < nI (zH s).length) ∧ (∃ u : Int32, v = some (.int u)) ∧ MR h h9 q A s 1) ∨ (∃ (i : Nat) (g : MG), p = nI i ∧ (zH s)[i]? = some g ∧ ¬ (¬ r < 0 ∧ r < nI g.2.2.length) ∧ (∃ u : Int32, v = some (.int u)) ∧ MR h h9 q A s 2) := fun v h9 F9 hv hmp hfm hF => by
      rcases hcw with ⟨a, -⟩ | ⟨a, b⟩ | ⟨a, e, b1, b2, b3, b4⟩
      · exact absurd a hc0
      · subst hF; subst a; exact Or.inl ⟨b, hv, _, hmp, hfm, rm2.th w hH _, fu_s⟩
      · subst hF; subst a; exact Or.inr ⟨e, b1, b2, b3, b4, hv, _, hmp, hfm, rm2.th w hH _, fu_s⟩
    refine V_aload_n (pc := 16) X 1 dX9_historyPosition_16 rfl ?_
    refine V_iload_n (pc := 17) X 0 dX9_historyPosition_17 rfl ?_
    refine V_callV (pc := 18) X clk9 (by decide) mp2.k _ (m_fails mp2 (c := nI cw)) cw_X9_144 (Q.room (by decide) (by decide)) rfl (Nat.le_of_ble_eq_true rfl) rfl (by omega) dX9_historyPosition_18 (fun _ _ z => z.elim) ?_
    rintro v18 h18 ⟨rfl, mp9, fm9⟩
    simp only [Option.toList_some, List.cons_append, List.nil_append]
    refine V_iret (pc := 21) X Q rfl rfl dX9_historyPosition_21 ?_
    exact Or.inr (fin _ _ _ ⟨_, rfl⟩ mp9 (gm2.seq fm9) rfl)
theorem m_areSame {E : EV} {h : AH} {q : Nat} {A : Nat → Nat} {F : MS'} {tb : Nat → Nat × Nat} {t u : Nat} {xs ys : List Nat} (mp : MP h q A F) (ht : t ≤ 2) (hu : u ≤ 2) (tx : TM tb F t xs) (ty : TM tb F u ys) (hc : ∀ y ∈ xs, (tb y).1 < 127) (hd : ∀ y ∈ ys, (tb y).1 < 127) : Ct E yX9_areSame cX9_areSame 4 (some .boolean) 2 0 [.ref q, .int (nI t), .int (nI u)] h (fun v h1 => v = some (.int (if lks tb xs ys = true then 1 else 0)) ∧ h1 = h) noX := by
  refine Ct_of RX9 (by decide +kernel) rfl (Nat.le_of_ble_eq_true rfl) (fun Γ X nt Q hin => ?_)
  have x1 := tx.1
  have y1 := ty.1
  refine V_aload_n (pc := 0) X 0 dX9_areSame_0 rfl ?_
  refine V_get (pc := 1) X fl_X9_34 dX9_areSame_1 mp.k (mp.f 909) ?_
  refine V_iload_n (pc := 4) X 1 dX9_areSame_4 rfl ?_
  refine M_ald (pc := 5) X mp ⟨by unfold isA; decide, by decide⟩ (by show _ < 3; omega) dX9_areSame_5 ?_
  rw [tx.2.1]
  refine V_aload_n (pc := 6) X 0 dX9_areSame_6 rfl ?_
  refine V_get (pc := 7) X fl_X9_34 dX9_areSame_7 mp.k (mp.f 909) ?_
  refine V_iload_n (pc := 10) X 2 dX9_areSame_10 rfl ?_
  refine M_ald (pc := 11) X mp ⟨by unfold isA; decide, by decide⟩ (by show _ < 3; omega) dX9_areSame_11 ?_
  rw [ty.2.1]
  refine V_icmp_eq (pc := 12) X 17 dX9_areSame_12 (by decide) (fun c12 => ?_) (fun c12 => ?_)
  · have k12 : xs.length = ys.length := (nI_eq (by omega) (by omega)).mp c12
    refine V_iconst (pc := 17) (v := 0) X dX9_areSame_17 (by decide) ?_
    show V _ _ _ _ _ _ (Value.int (nI 0) :: _)
    refine V_istore_n (pc := 18) X [(3, .int _), (0, .ref _), (1, .int _), (2, .int _)] dX9_areSame_18 rfl (by decide) rfl ?_
    have key : ∀ (n k : Nat), xs.length - k < n → k ≤ xs.length → (∀ i, i < k → mt tb xs ys i i = true) → V E Γ 0 h 19 [(3, .int (nI k)), (0, .ref q), (1, .int (nI t)), (2, .int (nI u))] [] := by
      intro n
      induction n with
      | zero => exact fun k hn => absurd hn (Nat.not_lt_zero _)
      | succ n ih =>
        intro k hn hk r1
        refine V_iload_n (pc := 19) X 0 dX9_areSame_19 rfl ?_
        refine V_aload_n (pc := 20) X 1 dX9_areSame_20 rfl ?_
        refine V_get (pc := 21) X fl_X9_34 dX9_areSame_21 mp.k (mp.f 909) ?_
        refine V_iload_n (pc := 24) X 2 dX9_areSame_24 rfl ?_
        refine M_ald (pc := 25) X mp ⟨by unfold isA; decide, by decide⟩ (by show _ < 3; omega) dX9_areSame_25 ?_
        rw [tx.2.1]
        refine V_icmp_ge (pc := 26) X 52 dX9_areSame_26 (by decide) (fun c26 => ?_) (fun c26 => ?_)
        · have hie : ¬ k < xs.length := fun y => nI_ge y (by omega) c26
          refine V_iconst (pc := 52) (v := 1) X dX9_areSame_52 (by decide) ?_
          show V _ _ _ _ _ _ (Value.int (nI 1) :: _)
          refine V_iret (pc := 53) X Q rfl rfl dX9_areSame_53 ?_
          exact ⟨by rw [if_pos (lks_of k12 (fun i hi => r1 i (by omega)))]; rfl, rfl⟩
        · have hlt : k < xs.length := by
            rcases Nat.lt_or_ge k xs.length with y | y
            · exact y
            · exact absurd (nI_le y (by omega)) c26
          obtain ⟨a, ha⟩ : ∃ a, xs[k]? = some a := ⟨_, List.getElem?_eq_getElem hlt⟩
          obtain ⟨b, hb⟩ : ∃ b, ys[k]? = some b := ⟨_, List.getElem?_eq_getElem (by omega)⟩
          have ca := hc a (List.mem_of_getElem? ha)
          have cb := hd b (List.mem_of_getElem? hb)
          have emt : mt tb xs ys k k = decide ((tb a).1 = (tb b).1) := by unfold mt; rw [ha, hb]
          refine V_aload_n (pc := 29) X 1 dX9_areSame_29 rfl ?_
          refine V_iload_n (pc := 30) X 2 dX9_areSame_30 rfl ?_
          refine V_iload_n (pc := 31) X 0 dX9_areSame_31 rfl ?_
          refine V_callV (pc := 32) X clk9 (by decide) mp.k _ (m_codeAt mp ht tx ha) cw_X9_157 (Q.room (by decide) (by decide)) rfl (Nat.le_of_ble_eq_true rfl) rfl (by omega) dX9_areSame_32 (fun _ _ z => z.elim) ?_
          rintro v32 h32 ⟨rfl, e32⟩
          rw [e32]
          simp only [Option.toList_some, List.cons_append, List.nil_append]
          refine V_aload_n (pc := 35) X 1 dX9_areSame_35 rfl ?_
          refine V_iload_n (pc := 36) X 3 dX9_areSame_36 rfl ?_
          refine V_iload_n (pc := 37) X 0 dX9_areSame_37 rfl ?_
          refine V_callV (pc := 38) X clk9 (by decide) mp.k _ (m_codeAt mp hu ty hb) cw_X9_157 (Q.room (by decide) (by decide)) rfl (Nat.le_of_ble_eq_true rfl) rfl (by omega) dX9_areSame_38 (fun _ _ z => z.elim) ?_
          rintro v38 h38 ⟨rfl, e38⟩
          rw [e38]
          simp only [Option.toList_some, List.cons_append, List.nil_append]
          refine V_icmp_eq (pc := 41) X 46 dX9_areSame_41 (by decide) (fun c41 => ?_) (fun c41 => ?_)
          · have k41 : (tb a).1 = (tb b).1 := (nI_eq (by omega) (by omega)).mp c41
            refine V_inc1 (pc := 46) X 0 [(3, .int _), (0, .ref _), (1, .int _), (2, .int _)] dX9_areSame_46 rfl (by decide) rfl ?_
            rw [nI_1]
            refine V_goto (pc := 49) X 19 dX9_areSame_49 (by decide) ?_
            exact ih (k + 1) (by omega) (by omega) (fun i hi => by
              rcases Nat.lt_or_ge i k with y | y
              · exact r1 i y
              · rw [show i = k by omega, emt]; simpa using k41)
          · have k41 : ¬ (tb a).1 = (tb b).1 := fun y => c41 (by rw [y])
            refine V_iconst (pc := 44) (v := 0) X dX9_areSame_44 (by decide) ?_
            show V _ _ _ _ _ _ (Value.int (nI 0) :: _)
            refine V_iret (pc := 45) X Q rfl rfl dX9_areSame_45 ?_
            exact ⟨by rw [lks_at k12 hlt (by rw [emt]; simpa using k41)]; rfl, rfl⟩
    exact key (xs.length + 1) 0 (by omega) (Nat.zero_le _) (fun i hi => absurd hi (Nat.not_lt_zero _))
  · have k12 : xs.length ≠ ys.length := fun y => c12 (by rw [y])
    refine V_iconst (pc := 15) (v := 0) X dX9_areSame_15 (by decide) ?_
    show V _ _ _ _ _ _ (Value.int (nI 0) :: _)
    refine V_iret (pc := 16) X Q rfl rfl dX9_areSame_16 ?_
    exact ⟨by rw [lks_len k12]; rfl, rfl⟩
theorem y_agree {E : EV} {h : AH} {q : Nat} {A : Nat → Nat} {F : MS'} {s : SQ} (mp : MP h q A F) (rm : RM (zT s) F s) (w : WS' s) (hH : (hop (zH s)).length ≤ 200) (hT : ∀ y ∈ zL s, (zT s y).1 < 127) : Ct E yX9_agree cX9_agree 1 (some .boolean) 3 0 [.ref q] h (fun v h1 => v = some (.int (if lks (zT s) (eX (zE s 0)) (eX (zE s 1)) = true ∧ lks (zT s) (eX (zE s 0)) (zC s) = true then 1 else 0)) ∧ MR h h1 q A s 0) noX := by
  refine Ct_of RX9 (by decide +kernel) rfl (Nat.le_of_ble_eq_true rfl) (fun Γ X nt Q hin => ?_)
  have gm := FM.refl h
  refine V_aload_n (pc := 0) X 0 dX9_agree_0 rfl ?_
  refine V_iconst (pc := 1) (v := 0) X dX9_agree_1 (by decide) ?_
  show V _ _ _ _ _ _ (Value.int (nI 0) :: _)
  refine M_put (pc := 2) X mp (i := 900) (by unfold isS; decide) fl_X9_92 dX9_agree_2 (fun h2 mp2 fm2 => ?_)
  have gm2 := gm.seq fm2
  have rm2 := rm.th w hH (nI 0)
  have t0 := (rm2.1 0 (by decide)).1.2.2.2.2.1
  have t1 := (rm2.1 1 (by decide)).1.2.2.2.2.1
  have l0 : ∀ y ∈ eX (zE s 0), (zT s y).1 < 127 := fun y hy => hT y ((w.1 0 (by decide)).1.1.2 y hy)
  have l1 : ∀ y ∈ eX (zE s 1), (zT s y).1 < 127 := fun y hy => hT y ((w.1 1 (by decide)).1.1.2 y hy)
  have lc : ∀ y ∈ zC s, (zT s y).1 < 127 := fun y hy => hT y (w.2.1.2 y hy)
  refine V_aload_n (pc := 5) X 0 dX9_agree_5 rfl ?_
  refine V_iconst (pc := 6) (v := 0) X dX9_agree_6 (by decide) ?_
  show V _ _ _ _ _ _ (Value.int (nI 0) :: _)
  refine V_iconst (pc := 7) (v := 1) X dX9_agree_7 (by decide) ?_
  show V _ _ _ _ _ _ (Value.int (nI 1) :: _)
  refine V_callV (pc := 8) X clk9 (by decide) mp2.k _ (m_areSame (t := 0) (u := 1) mp2 (by decide) (by decide) t0 t1 l0 l1) cw_X9_212 (Q.room (by decide) (by decide)) rfl (Nat.le_of_ble_eq_true rfl) rfl (by omega) dX9_agree_8 (fun _ _ z => z.elim) ?_
  rintro v8 h8 ⟨rfl, e8⟩
  rw [e8]
  simp only [Option.toList_some, List.cons_append, List.nil_append]
  refine V_if_eq (pc := 11) X 27 dX9_agree_11 (by decide) (fun c11 => ?_) (fun c11 => ?_)
  · have hb : ¬ lks (zT s) (eX (zE s 0)) (eX (zE s 1)) = true := fun y => by rw [if_pos y] at c11; exact absurd c11 (by decide)
    refine V_iconst (pc := 27) (v := 0) X dX9_agree_27 (by decide) ?_
    show V _ _ _ _ _ _ (Value.int (nI 0) :: _)
    refine V_iret (pc := 28) X Q rfl rfl dX9_agree_28 ?_
    refine ⟨?_, _, mp2, gm2, rm2, fu_s⟩
    first
    | (rw [if_neg (fun y => hb y.1)]; rfl)
    | (rw [if_neg (fun y => hd y.2)]; rfl)
    | (rw [if_pos ⟨hb, hd⟩]; rfl)
  · have hb : lks (zT s) (eX (zE s 0)) (eX (zE s 1)) = true := by
      by_cases y : lks (zT s) (eX (zE s 0)) (eX (zE s 1)) = true
      · exact y
      · rw [if_neg y] at c11; exact absurd rfl c11
    refine V_aload_n (pc := 14) X 0 dX9_agree_14 rfl ?_
    refine V_iconst (pc := 15) (v := 0) X dX9_agree_15 (by decide) ?_
    show V _ _ _ _ _ _ (Value.int (nI 0) :: _)
    refine V_iconst (pc := 16) (v := 2) X dX9_agree_16 (by decide) ?_
    show V _ _ _ _ _ _ (Value.int (nI 2) :: _)
    refine V_callV (pc := 17) X clk9 (by decide) mp2.k _ (m_areSame (t := 0) (u := 2) mp2 (by decide) (by decide) t0 rm2.2.1 l0 lc) cw_X9_212 (Q.room (by decide) (by decide)) rfl (Nat.le_of_ble_eq_true rfl) rfl (by omega) dX9_agree_17 (fun _ _ z => z.elim) ?_
    rintro v17 h17 ⟨rfl, e17⟩
    rw [e17]
    simp only [Option.toList_some, List.cons_append, List.nil_append]
    refine V_if_eq (pc := 20) X 27 dX9_agree_20 (by decide) (fun c20 => ?_) (fun c20 => ?_)
    · have hd : ¬ lks (zT s) (eX (zE s 0)) (zC s) = true := fun y => by rw [if_pos y] at c20; exact absurd c20 (by decide)
      refine V_iconst (pc := 27) (v := 0) X dX9_agree_27 (by decide) ?_
      show V _ _ _ _ _ _ (Value.int (nI 0) :: _)
      refine V_iret (pc := 28) X Q rfl rfl dX9_agree_28 ?_
      refine ⟨?_, _, mp2, gm2, rm2, fu_s⟩
      first
      | (rw [if_neg (fun y => hb y.1)]; rfl)
      | (rw [if_neg (fun y => hd y.2)]; rfl)
      | (rw [if_pos ⟨hb, hd⟩]; rfl)
    · have hd : lks (zT s) (eX (zE s 0)) (zC s) = true := by
        by_cases y : lks (zT s) (eX (zE s 0)) (zC s) = true
        · exact y
        · rw [if_neg y] at c20; exact absurd rfl c20
      refine V_iconst (pc := 23) (v := 1) X dX9_agree_23 (by decide) ?_
      show V _ _ _ _ _ _ (Value.int (nI 1) :: _)
      refine V_goto (pc := 24) X 28 dX9_agree_24 (by decide) ?_
      refine V_iret (pc := 28) X Q rfl rfl dX9_agree_28 ?_
      refine ⟨?_, _, mp2, gm2, rm2, fu_s⟩
      first
      | (rw [if_neg (fun y => hb y.1)]; rfl)
      | (rw [if_neg (fun y => hd y.2)]; rfl)
      | (rw [if_pos ⟨hb, hd⟩]; rfl)
