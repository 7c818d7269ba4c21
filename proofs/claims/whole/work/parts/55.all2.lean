/-! DELIVERING ALL: THE CALL -/
theorem x_deliverAll {E : EV} {h : AH} {q : Nat} {G : GQ} {s : SQ} (z : RC h q G s) (hI : INV s) : Ct E yX8_deliverAll cX8_deliverAll 2 (some .int) 14 (Ph s - Ph (dAll s).2) [.ref q] h (fun v h1 => v = some (.int (nI (dAll s).1)) ∧ RC h1 q G (dAll s).2 ∧ FC h h1) noX := by
  refine Ct_of RX8 (by decide +kernel) rfl (Nat.le_of_ble_eq_true rfl) (fun Γ X nt Q hin => ?_)
  refine V_iconst (pc := 0) (v := 0) X dX8_deliverAll_0 (by decide) ?_
  refine V_istore_n (pc := 1) X [(1, .int _), (0, .ref _)] dX8_deliverAll_1 rfl (by decide) rfl ?_
  have hI0 := hI
  clear hI
  have key : ∀ (n i : Nat) (si : SQ) (hr : AH), mu si < n → INV si → RC hr q G si → FC h hr → dAll s = (i + (dAll si).1, (dAll si).2) → i + mu si ≤ 2000 → V E Γ (Ph si - Ph (dAll s).2) hr 2 [(1, .int (nI i)), (0, .ref q)] [] := by
    intro n
    induction n with
    | zero => exact fun i si hr hn => absurd hn (Nat.not_lt_zero _)
    | succ n ih =>
      intro i si hr hn hI z1 fc hda hil
      have hW := hI.ws
      have hf2 : (dAll s).2 = (dAll si).2 := by rw [hda]
      have hok := (dAll_ok _ _ (Nat.le_refl _) hI).2.2.1
      obtain ⟨Hs, Us, hL, hH, hu, hnn⟩ := z1.2.2.2.1
      obtain ⟨u01, u02, u03, u04, u05⟩ := hu 0 (by decide)
      obtain ⟨u11, u12, u13, u14, u15⟩ := hu 1 (by decide)
      refine V_iload_n (pc := 2) X 0 dX8_deliverAll_2 rfl ?_
      refine V_ldc (pc := 3) X lc_X8_167 dX8_deliverAll_3 ?_
      refine V_icmp_ge (pc := 5) X 104 dX8_deliverAll_5 (by decide) (fun c5 => ?_) (fun c5 => ?_)
      · exact absurd ((nI_leI (a := 1000000) (by decide) (by omega)).mp c5) (by omega)
      · refine V_aload_n (pc := 8) X 1 dX8_deliverAll_8 rfl ?_
        refine V_get (pc := 9) X fl_X8_12 dX8_deliverAll_9 z1.k z1.1.2.1 ?_
        refine V_get (pc := 12) X fl_X8_129 dX8_deliverAll_12 (z1.es (e := 0) (by decide)).1 ((z1.es (e := 0) (by decide)).f 4) ?_
        refine V_callL (pc := 15) X (Or.inl ((z1.es (e := 0) (by decide)).l 4)) _ (c_isEmpty ((z1.es (e := 0) (by decide)).l 4) (by rw [u02, u01.1]; have := (hI.1.wu (e := 0) (by decide)).1; omega)) cw_X8_132 (Q.room (by decide) (by decide)) rfl (Nat.le_of_ble_eq_true rfl) rfl (by omega) dX8_deliverAll_15 (fun _ _ z => z.elim) ?_
        rintro v15 h15 ⟨rfl, e15⟩
        rw [e15, u02]
        simp only [Option.toList_some, List.cons_append, List.nil_append]
        refine V_if_ne (pc := 18) X 30 dX8_deliverAll_18 (by decide) (fun c18 => ?_) (fun c18 => ?_)
        · have n0 : zU si 0 = [] := by
            have : Us 0 = [] := by
              by_cases y : Us 0 = []
              · exact y
              · rw [if_neg y] at c18; exact absurd rfl c18
            exact List.length_eq_zero_iff.mp (by rw [← u01.1, this]; rfl)
          refine V_aload_n (pc := 30) X 1 dX8_deliverAll_30 rfl ?_
          refine V_get (pc := 31) X fl_X8_18 dX8_deliverAll_31 z1.k z1.1.2.2.1 ?_
          refine V_get (pc := 34) X fl_X8_129 dX8_deliverAll_34 (z1.es (e := 1) (by decide)).1 ((z1.es (e := 1) (by decide)).f 4) ?_
          refine V_callL (pc := 37) X (Or.inl ((z1.es (e := 1) (by decide)).l 4)) _ (c_isEmpty ((z1.es (e := 1) (by decide)).l 4) (by rw [u12, u11.1]; have := (hI.1.wu (e := 1) (by decide)).1; omega)) cw_X8_132 (Q.room (by decide) (by decide)) rfl (Nat.le_of_ble_eq_true rfl) rfl (by omega) dX8_deliverAll_37 (fun _ _ z => z.elim) ?_
          rintro v37 h37 ⟨rfl, e37⟩
          rw [e37, u12]
          simp only [Option.toList_some, List.cons_append, List.nil_append]
          refine V_if_ne (pc := 40) X 52 dX8_deliverAll_40 (by decide) (fun c40 => ?_) (fun c40 => ?_)
          · have n1 : zU si 1 = [] := by
              have : Us 1 = [] := by
                by_cases y : Us 1 = []
                · exact y
                · rw [if_neg y] at c40; exact absurd rfl c40
              exact List.length_eq_zero_iff.mp (by rw [← u11.1, this]; rfl)
            refine V_aload_n (pc := 52) X 1 dX8_deliverAll_52 rfl ?_
            refine V_get (pc := 53) X fl_X8_12 dX8_deliverAll_53 z1.k z1.1.2.1 ?_
            refine V_get (pc := 56) X fl_X8_147 dX8_deliverAll_56 (z1.es (e := 0) (by decide)).1 ((z1.es (e := 0) (by decide)).f 5) ?_
            refine V_callL (pc := 59) X (Or.inl ((z1.es (e := 0) (by decide)).l 5)) _ (c_isEmpty ((z1.es (e := 0) (by decide)).l 5) (by rw [u04, List.length_drop, hH.1]; have := hW.2.2.1.1; omega)) cw_X8_132 (Q.room (by decide) (by decide)) rfl (Nat.le_of_ble_eq_true rfl) rfl (by omega) dX8_deliverAll_59 (fun _ _ z => z.elim) ?_
            rintro v59 h59 ⟨rfl, e59⟩
            rw [e59, u04]
            simp only [Option.toList_some, List.cons_append, List.nil_append]
            refine V_if_ne (pc := 62) X 74 dX8_deliverAll_62 (by decide) (fun c62 => ?_) (fun c62 => ?_)
            · have g0 : (zH si)[eR (zE si 0)]? = none := by
                have : Hs.drop (eR (zE si 0)) = [] := by
                  by_cases y : Hs.drop (eR (zE si 0)) = []
                  · exact y
                  · rw [if_neg y] at c62; exact absurd rfl c62
                have := congrArg List.length this
                rw [List.length_drop] at this
                exact List.getElem?_eq_none (by rw [← hH.1]; simp only [List.length_nil] at this; omega)
              refine V_aload_n (pc := 74) X 1 dX8_deliverAll_74 rfl ?_
              refine V_get (pc := 75) X fl_X8_18 dX8_deliverAll_75 z1.k z1.1.2.2.1 ?_
              refine V_get (pc := 78) X fl_X8_147 dX8_deliverAll_78 (z1.es (e := 1) (by decide)).1 ((z1.es (e := 1) (by decide)).f 5) ?_
              refine V_callL (pc := 81) X (Or.inl ((z1.es (e := 1) (by decide)).l 5)) _ (c_isEmpty ((z1.es (e := 1) (by decide)).l 5) (by rw [u14, List.length_drop, hH.1]; have := hW.2.2.1.1; omega)) cw_X8_132 (Q.room (by decide) (by decide)) rfl (Nat.le_of_ble_eq_true rfl) rfl (by omega) dX8_deliverAll_81 (fun _ _ z => z.elim) ?_
              rintro v81 h81 ⟨rfl, e81⟩
              rw [e81, u14]
              simp only [Option.toList_some, List.cons_append, List.nil_append]
              refine V_if_ne (pc := 84) X 96 dX8_deliverAll_84 (by decide) (fun c84 => ?_) (fun c84 => ?_)
              · have g1 : (zH si)[eR (zE si 1)]? = none := by
                  have : Hs.drop (eR (zE si 1)) = [] := by
                    by_cases y : Hs.drop (eR (zE si 1)) = []
                    · exact y
                    · rw [if_neg y] at c84; exact absurd rfl c84
                  have := congrArg List.length this
                  rw [List.length_drop] at this
                  exact List.getElem?_eq_none (by rw [← hH.1]; simp only [List.length_nil] at this; omega)
                refine V_iload_n (pc := 96) X 0 dX8_deliverAll_96 rfl ?_
                refine V_iret (pc := 97) X Q rfl rfl dX8_deliverAll_97 ?_
                have hdO : dOne si = none := by unfold dOne; rw [n0, n1, g0, g1]
                have da := dAll_n hdO
                have e1 : dAll s = (i, si) := by rw [hda, da]; rfl
                rw [e1]
                exact ⟨rfl, z1, fc⟩
              · have y1 : ¬ Hs.drop (eR (zE si 1)) = [] := fun y => by rw [if_pos y] at c84; exact absurd c84 (by decide)
                obtain ⟨m, hm1⟩ : ∃ m, (zH si)[eR (zE si 1)]? = some m := ⟨_, List.getElem?_eq_getElem (by
                  rw [← hH.1]
                  rcases Nat.lt_or_ge (eR (zE si 1)) Hs.length with y | y
                  · exact y
                  · exact absurd (List.drop_eq_nil_of_le y) y1)⟩
                have hdO : dOne si = some (sDn si 1 m) := by unfold dOne; rw [n0, n1, g0, hm1]
                have mu1 := dn_mu hI (e := 1) (by decide) hm1
                have da := dAll_s hI hdO
                have ok2 := (dAll_ok _ _ (Nat.le_refl _) (hI.dn' (e := 1) (by decide) hm1).1).2.2.1
                have hf3 : (dAll s).2 = (dAll (sDn si 1 m)).2 := by rw [hf2, da]
                rw [hf3]
                refine V_aload_n (pc := 87) X 1 dX8_deliverAll_87 rfl ?_
                refine V_iconst (pc := 88) (v := 1) X dX8_deliverAll_88 (by decide) ?_
                refine V_callV (pc := 89) X clk8 (by decide) z1.k _ (x_deliverDown z1 hW (x := 1) (B := 1318 + 104 * m.2.2.length) (fun e' he' ex m' hm' => by
                    have ee : e' = 1 := ((nI_eq (a := 1) (by decide) (by omega)).mp ex).symm
                    rw [ee, hm1] at hm'
                    rw [Option.some.inj hm']; exact Nat.le_refl _) (by omega) hI.dn) cw_X8_172 (Q.room (by decide) (by decide)) rfl (Nat.le_of_ble_eq_true rfl) rfl (by omega) dX8_deliverAll_89 (fun N h9 y => by
                  exfalso
                  rcases y.1 with y | ⟨e', he', ex, y⟩
                  · exact y.2 (Or.inr rfl)
                  · have ee : e' = 1 := ((nI_eq (a := 1) (by decide) (by omega)).mp ex).symm
                    rw [ee] at y
                    have := (List.getElem?_eq_some_iff.mp hm1).1
                    omega) ?_
                rintro vv h2 ⟨⟨e', m', he', ex, hm', rfl, z2⟩, fc2⟩
                have ee : e' = 1 := ((nI_eq (a := 1) (by decide) (by omega)).mp ex).symm
                rw [ee, hm1] at hm'
                have em : m' = m := (Option.some.inj hm').symm
                rw [ee, em] at z2
                simp only [Option.toList_some, List.cons_append, List.nil_append]
                refine V_pop (pc := 92) X dX8_deliverAll_92 rfl ?_
                refine V_goto (pc := 93) X 98 dX8_deliverAll_93 (by decide) ?_
                refine V_inc1 (pc := 98) X 0 [(1, .int _), (0, .ref _)] dX8_deliverAll_98 rfl (by decide) rfl ?_
                rw [nI_1]
                refine V_goto (pc := 101) X 2 dX8_deliverAll_101 (by decide) ?_
                refine V.less (b' := Ph (sDn si 1 m) - Ph (dAll s).2) (by rw [hf3]; omega) ?_
                exact ih (i + 1) (sDn si 1 m) h2 (by omega) ((hI.dn' (e := 1) (by decide) hm1).1) z2 (fc.seq fc2) (by rw [hda, da]; simp only [Nat.add_assoc, Nat.add_comm 1]) (by omega)
            · have y0 : ¬ Hs.drop (eR (zE si 0)) = [] := fun y => by rw [if_pos y] at c62; exact absurd c62 (by decide)
              obtain ⟨m, hm1⟩ : ∃ m, (zH si)[eR (zE si 0)]? = some m := ⟨_, List.getElem?_eq_getElem (by
                rw [← hH.1]
                rcases Nat.lt_or_ge (eR (zE si 0)) Hs.length with y | y
                · exact y
                · exact absurd (List.drop_eq_nil_of_le y) y0)⟩
              have hdO : dOne si = some (sDn si 0 m) := by unfold dOne; rw [n0, n1, hm1]
              have mu1 := dn_mu hI (e := 0) (by decide) hm1
              have da := dAll_s hI hdO
              have ok2 := (dAll_ok _ _ (Nat.le_refl _) (hI.dn' (e := 0) (by decide) hm1).1).2.2.1
              have hf3 : (dAll s).2 = (dAll (sDn si 0 m)).2 := by rw [hf2, da]
              rw [hf3]
              refine V_aload_n (pc := 65) X 1 dX8_deliverAll_65 rfl ?_
              refine V_iconst (pc := 66) (v := 0) X dX8_deliverAll_66 (by decide) ?_
              refine V_callV (pc := 67) X clk8 (by decide) z1.k _ (x_deliverDown z1 hW (x := 0) (B := 1318 + 104 * m.2.2.length) (fun e' he' ex m' hm' => by
                  have ee : e' = 0 := ((nI_eq (a := 0) (by decide) (by omega)).mp ex).symm
                  rw [ee, hm1] at hm'
                  rw [Option.some.inj hm']; exact Nat.le_refl _) (by omega) hI.dn) cw_X8_172 (Q.room (by decide) (by decide)) rfl (Nat.le_of_ble_eq_true rfl) rfl (by omega) dX8_deliverAll_67 (fun N h9 y => by
                exfalso
                rcases y.1 with y | ⟨e', he', ex, y⟩
                · exact y.2 (Or.inl rfl)
                · have ee : e' = 0 := ((nI_eq (a := 0) (by decide) (by omega)).mp ex).symm
                  rw [ee] at y
                  have := (List.getElem?_eq_some_iff.mp hm1).1
                  omega) ?_
              rintro vv h2 ⟨⟨e', m', he', ex, hm', rfl, z2⟩, fc2⟩
              have ee : e' = 0 := ((nI_eq (a := 0) (by decide) (by omega)).mp ex).symm
              rw [ee, hm1] at hm'
              have em : m' = m := (Option.some.inj hm').symm
              rw [ee, em] at z2
              simp only [Option.toList_some, List.cons_append, List.nil_append]
              refine V_pop (pc := 70) X dX8_deliverAll_70 rfl ?_
              refine V_goto (pc := 71) X 98 dX8_deliverAll_71 (by decide) ?_
              refine V_inc1 (pc := 98) X 0 [(1, .int _), (0, .ref _)] dX8_deliverAll_98 rfl (by decide) rfl ?_
              rw [nI_1]
              refine V_goto (pc := 101) X 2 dX8_deliverAll_101 (by decide) ?_
              refine V.less (b' := Ph (sDn si 0 m) - Ph (dAll s).2) (by rw [hf3]; omega) ?_
              exact ih (i + 1) (sDn si 0 m) h2 (by omega) ((hI.dn' (e := 0) (by decide) hm1).1) z2 (fc.seq fc2) (by rw [hda, da]; simp only [Nat.add_assoc, Nat.add_comm 1]) (by omega)
          · have y1 : Us 1 ≠ [] := fun y => by rw [if_pos y] at c40; exact absurd c40 (by decide)
            obtain ⟨m, l, hml⟩ : ∃ m l, zU si 1 = m :: l := by
              cases hz : zU si 1 with
              | nil => exact absurd (List.length_eq_zero_iff.mp (by rw [u11.1, hz]; rfl)) y1
              | cons a l => exact ⟨a, l, rfl⟩
            have hm1 := up_one hI (e := 1) (by decide) hml
            have hdO : dOne si = some (sUp si 1 m) := by unfold dOne; rw [n0, hml]
            have mu1 := up_mu hI (e := 1) (by decide) hm1
            have da := dAll_s hI hdO
            have ok2 := (dAll_ok _ _ (Nat.le_refl _) (hI.up' (e := 1) (by decide) hm1)).2.2.1
            have hf3 : (dAll s).2 = (dAll (sUp si 1 m)).2 := by rw [hf2, da]
            rw [hf3]
            refine V_aload_n (pc := 43) X 1 dX8_deliverAll_43 rfl ?_
            refine V_iconst (pc := 44) (v := 1) X dX8_deliverAll_44 (by decide) ?_
            refine V_callV (pc := 45) X clk8 (by decide) z1.k _ (x_deliverUp z1 hW (fun e he m hm => (hI.1.enter he hm).1) (x := 1)) cw_X8_168 (Q.room (by decide) (by decide)) rfl (Nat.le_of_ble_eq_true rfl) rfl (by omega) dX8_deliverAll_45 (fun N h9 y => by
              exfalso
              rcases y.1 with y | ⟨e', he', ex, y⟩
              · exact y.2 (Or.inr rfl)
              · have : e' = 1 := ((nI_eq (a := 1) (by decide) (by omega)).mp ex).symm
                rw [this, hm1] at y
                exact absurd y.2 (List.cons_ne_nil _ _)) ?_
            rintro vv h2 ⟨⟨e', m', he', ex, hm', rfl, z2⟩, fc2⟩
            have ee : e' = 1 := ((nI_eq (a := 1) (by decide) (by omega)).mp ex).symm
            rw [ee, hm1] at hm'
            have em : m' = m := (List.head_eq_of_cons_eq hm').symm
            rw [ee, em] at z2
            simp only [Option.toList_some, List.cons_append, List.nil_append]
            refine V_pop (pc := 48) X dX8_deliverAll_48 rfl ?_
            refine V_goto (pc := 49) X 98 dX8_deliverAll_49 (by decide) ?_
            refine V_inc1 (pc := 98) X 0 [(1, .int _), (0, .ref _)] dX8_deliverAll_98 rfl (by decide) rfl ?_
            rw [nI_1]
            refine V_goto (pc := 101) X 2 dX8_deliverAll_101 (by decide) ?_
            refine V.less (b' := Ph (sUp si 1 m) - Ph (dAll s).2) (by rw [hf3]; omega) ?_
            exact ih (i + 1) (sUp si 1 m) h2 (by omega) (hI.up' (e := 1) (by decide) hm1) z2 (fc.seq fc2) (by rw [hda, da]; simp only [Nat.add_assoc, Nat.add_comm 1]) (by omega)
        · have y0 : Us 0 ≠ [] := fun y => by rw [if_pos y] at c18; exact absurd c18 (by decide)
          obtain ⟨m, l, hml⟩ : ∃ m l, zU si 0 = m :: l := by
            cases hz : zU si 0 with
            | nil => exact absurd (List.length_eq_zero_iff.mp (by rw [u01.1, hz]; rfl)) y0
            | cons a l => exact ⟨a, l, rfl⟩
          have hm1 := up_one hI (e := 0) (by decide) hml
          have hdO : dOne si = some (sUp si 0 m) := by unfold dOne; rw [hml]
          have mu1 := up_mu hI (e := 0) (by decide) hm1
          have da := dAll_s hI hdO
          have ok2 := (dAll_ok _ _ (Nat.le_refl _) (hI.up' (e := 0) (by decide) hm1)).2.2.1
          have hf3 : (dAll s).2 = (dAll (sUp si 0 m)).2 := by rw [hf2, da]
          rw [hf3]
          refine V_aload_n (pc := 21) X 1 dX8_deliverAll_21 rfl ?_
          refine V_iconst (pc := 22) (v := 0) X dX8_deliverAll_22 (by decide) ?_
          refine V_callV (pc := 23) X clk8 (by decide) z1.k _ (x_deliverUp z1 hW (fun e he m hm => (hI.1.enter he hm).1) (x := 0)) cw_X8_168 (Q.room (by decide) (by decide)) rfl (Nat.le_of_ble_eq_true rfl) rfl (by omega) dX8_deliverAll_23 (fun N h9 y => by
            exfalso
            rcases y.1 with y | ⟨e', he', ex, y⟩
            · exact y.2 (Or.inl rfl)
            · have : e' = 0 := ((nI_eq (a := 0) (by decide) (by omega)).mp ex).symm
              rw [this, hm1] at y
              exact absurd y.2 (List.cons_ne_nil _ _)) ?_
          rintro vv h2 ⟨⟨e', m', he', ex, hm', rfl, z2⟩, fc2⟩
          have ee : e' = 0 := ((nI_eq (a := 0) (by decide) (by omega)).mp ex).symm
          rw [ee, hm1] at hm'
          have em : m' = m := (List.head_eq_of_cons_eq hm').symm
          rw [ee, em] at z2
          simp only [Option.toList_some, List.cons_append, List.nil_append]
          refine V_pop (pc := 26) X dX8_deliverAll_26 rfl ?_
          refine V_goto (pc := 27) X 98 dX8_deliverAll_27 (by decide) ?_
          refine V_inc1 (pc := 98) X 0 [(1, .int _), (0, .ref _)] dX8_deliverAll_98 rfl (by decide) rfl ?_
          rw [nI_1]
          refine V_goto (pc := 101) X 2 dX8_deliverAll_101 (by decide) ?_
          refine V.less (b' := Ph (sUp si 0 m) - Ph (dAll s).2) (by rw [hf3]; omega) ?_
          exact ih (i + 1) (sUp si 0 m) h2 (by omega) (hI.up' (e := 0) (by decide) hm1) z2 (fc.seq fc2) (by rw [hda, da]; simp only [Nat.add_assoc, Nat.add_comm 1]) (by omega)
  exact key (mu s + 1) 0 s h (by omega) hI0 z (FC.refl h) (by rw [Nat.zero_add]) (by have := mu_le hI0; omega)
