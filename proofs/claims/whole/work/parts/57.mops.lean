/-! THE MODEL'S OPERATIONS -/
/-- a place for an operation -/
def OS (F : MS') (i : Nat) : Int32 × Int32 × Int32 × Int32 × Int32 := (F 901 i, F 902 i, F 903 i, F 904 i, F 905 i)
/-- all but the operations is kept -/
def KO5 (F F' : MS') : Prop := ∀ i j, ¬ (901 ≤ i ∧ i ≤ 905) → F' i j = F i j
theorem KO5.refl (F : MS') : KO5 F F := fun _ _ _ => rfl
theorem KO5.seq {F F' F'' : MS'} (a : KO5 F F') (b : KO5 F' F'') : KO5 F F'' := fun i j h => (b i j h).trans (a i j h)
theorem m_copies {E : EV} {h : AH} {q : Nat} {A : Nat → Nat} {F : MS'} (mp : MP h q A F) {i j : Nat} (hi : i < 1401) (hj : j < 1401) : Ct E yX9_copies cX9_copies 3 none 1 0 [.ref q, .int (nI i), .int (nI j)] h (fun v h1 => v = none ∧ ∃ F', MP h1 q A F' ∧ FM h h1 ∧ KO5 F F' ∧ ∀ k, OS F' k = if k = j then OS F i else OS F k) noX := by
  refine Ct_of RX9 (by decide +kernel) rfl (Nat.le_of_ble_eq_true rfl) (fun Γ X nt Q hin => ?_)
  have gm := FM.refl h
  refine V_aload_n (pc := 0) X 0 dX9_copies_0 rfl ?_
  refine V_get (pc := 1) X fl_X9_7 dX9_copies_1 mp.k (mp.f 901) ?_
  refine V_iload_n (pc := 4) X 2 dX9_copies_4 rfl ?_
  refine V_aload_n (pc := 5) X 0 dX9_copies_5 rfl ?_
  refine V_get (pc := 6) X fl_X9_7 dX9_copies_6 mp.k (mp.f 901) ?_
  refine V_iload_n (pc := 9) X 1 dX9_copies_9 rfl ?_
  refine M_ald (pc := 10) X mp ⟨by unfold isA; decide, by decide⟩ (by show _ < 1401; omega) dX9_copies_10 ?_
  refine M_ast (pc := 11) X mp ⟨by unfold isA; decide, by decide⟩ (by show _ < 1401; omega) dX9_copies_11 (fun h11 mp11 fm11 => ?_)
  have gm11 := gm.seq fm11
  refine V_aload_n (pc := 12) X 0 dX9_copies_12 rfl ?_
  refine V_get (pc := 13) X fl_X9_13 dX9_copies_13 mp11.k (mp11.f 902) ?_
  refine V_iload_n (pc := 16) X 2 dX9_copies_16 rfl ?_
  refine V_aload_n (pc := 17) X 0 dX9_copies_17 rfl ?_
  refine V_get (pc := 18) X fl_X9_13 dX9_copies_18 mp11.k (mp11.f 902) ?_
  refine V_iload_n (pc := 21) X 1 dX9_copies_21 rfl ?_
  refine M_ald (pc := 22) X mp11 ⟨by unfold isA; decide, by decide⟩ (by show _ < 1401; omega) dX9_copies_22 ?_
  refine M_ast (pc := 23) X mp11 ⟨by unfold isA; decide, by decide⟩ (by show _ < 1401; omega) dX9_copies_23 (fun h23 mp23 fm23 => ?_)
  have gm23 := gm11.seq fm23
  refine V_aload_n (pc := 24) X 0 dX9_copies_24 rfl ?_
  refine V_get (pc := 25) X fl_X9_16 dX9_copies_25 mp23.k (mp23.f 903) ?_
  refine V_iload_n (pc := 28) X 2 dX9_copies_28 rfl ?_
  refine V_aload_n (pc := 29) X 0 dX9_copies_29 rfl ?_
  refine V_get (pc := 30) X fl_X9_16 dX9_copies_30 mp23.k (mp23.f 903) ?_
  refine V_iload_n (pc := 33) X 1 dX9_copies_33 rfl ?_
  refine M_ald (pc := 34) X mp23 ⟨by unfold isA; decide, by decide⟩ (by show _ < 1401; omega) dX9_copies_34 ?_
  refine M_ast (pc := 35) X mp23 ⟨by unfold isA; decide, by decide⟩ (by show _ < 1401; omega) dX9_copies_35 (fun h35 mp35 fm35 => ?_)
  have gm35 := gm23.seq fm35
  refine V_aload_n (pc := 36) X 0 dX9_copies_36 rfl ?_
  refine V_get (pc := 37) X fl_X9_19 dX9_copies_37 mp35.k (mp35.f 904) ?_
  refine V_iload_n (pc := 40) X 2 dX9_copies_40 rfl ?_
  refine V_aload_n (pc := 41) X 0 dX9_copies_41 rfl ?_
  refine V_get (pc := 42) X fl_X9_19 dX9_copies_42 mp35.k (mp35.f 904) ?_
  refine V_iload_n (pc := 45) X 1 dX9_copies_45 rfl ?_
  refine M_ald (pc := 46) X mp35 ⟨by unfold isA; decide, by decide⟩ (by show _ < 1401; omega) dX9_copies_46 ?_
  refine M_ast (pc := 47) X mp35 ⟨by unfold isA; decide, by decide⟩ (by show _ < 1401; omega) dX9_copies_47 (fun h47 mp47 fm47 => ?_)
  have gm47 := gm35.seq fm47
  refine V_aload_n (pc := 48) X 0 dX9_copies_48 rfl ?_
  refine V_get (pc := 49) X fl_X9_22 dX9_copies_49 mp47.k (mp47.f 905) ?_
  refine V_iload_n (pc := 52) X 2 dX9_copies_52 rfl ?_
  refine V_aload_n (pc := 53) X 0 dX9_copies_53 rfl ?_
  refine V_get (pc := 54) X fl_X9_22 dX9_copies_54 mp47.k (mp47.f 905) ?_
  refine V_iload_n (pc := 57) X 1 dX9_copies_57 rfl ?_
  refine M_ald (pc := 58) X mp47 ⟨by unfold isA; decide, by decide⟩ (by show _ < 1401; omega) dX9_copies_58 ?_
  refine M_ast (pc := 59) X mp47 ⟨by unfold isA; decide, by decide⟩ (by show _ < 1401; omega) dX9_copies_59 (fun h59 mp59 fm59 => ?_)
  have gm59 := gm47.seq fm59
  refine V_vret (pc := 60) X Q rfl dX9_copies_60 ?_
  refine ⟨rfl, _, mp59, gm59, fun a b hab => ?_, fun k => ?_⟩
  · rw [fu_i (by omega), fu_i (by omega), fu_i (by omega), fu_i (by omega), fu_i (by omega)]
  · unfold OS
    by_cases e : k = j
    · subst e
      rw [if_pos rfl]
      by_cases e2 : i = k
      · subst e2
        simp [fu]
      · simp [fu, e2]
    · rw [if_neg e]
      simp [fu, e]
/-- operation o stands at place i -/
def SL (tb : Nat → Nat × Nat) (F : MS') (i : Nat) (o : SO) : Prop := o.1 ≤ 2 ∧ F 901 i = nI o.1 ∧ (o.1 ≠ 0 → F 902 i = nI o.2.1) ∧ (o.1 = 1 → F 903 i = nI (tb o.2.2.1).1 ∧ F 904 i = nI o.2.2.1) ∧ F 905 i = nI o.2.2.2
theorem SL.os {tb : Nat → Nat × Nat} {F F' : MS'} {i k : Nat} {o : SO} (z : SL tb F i o) (e : OS F' k = OS F i) : SL tb F' k o := by
  unfold OS at e
  have e1 := congrArg (fun p => p.1) e
  have e2 := congrArg (fun p => p.2.1) e
  have e3 := congrArg (fun p => p.2.2.1) e
  have e4 := congrArg (fun p => p.2.2.2.1) e
  have e5 := congrArg (fun p => p.2.2.2.2) e
  dsimp only at e1 e2 e3 e4 e5
  unfold SL
  rw [e1, e2, e3, e4, e5]
  exact z
theorem m_moved {E : EV} {h : AH} {a b : SO} {P R : Int32} (ha : a.1 ≤ 2) (hb : b.1 ≤ 2) (pa : a.2.1 < 2 ^ 29) (pb : b.2.1 < 2 ^ 29) (hP : a.1 ≠ 0 → P = nI a.2.1) (hR : b.1 ≠ 0 → R = nI b.2.1) : Ct E yX9_moved cX9_moved 5 (some .int) 1 0 [.int (nI a.1), .int P, .int (nI b.1), .int R, .int (if b.2.2.2 = 0 then 1 else 0)] h (fun v h1 => (∃ w : Int32, v = some (.int w) ∧ (a.1 = 0 ∨ b.1 = 0 → w = P) ∧ (a.1 ≠ 0 → b.1 ≠ 0 → w = if (trb a b).1 = 0 then -1 else nI (trb a b).2.1)) ∧ h1 = h) noX := by
  refine Ct_of RX9 (by decide +kernel) rfl (Nat.le_of_ble_eq_true rfl) (fun Γ X nt Q hin => ?_)
  refine V_iload_n (pc := 0) X 0 dX9_moved_0 rfl ?_
  refine V_if_eq (pc := 1) X 8 dX9_moved_1 (by decide) (fun c1 => ?_) (fun c1 => ?_)
  · have k1 : a.1 = 0 := (nI_eq (by omega) (by decide)).mp c1
    refine V_iload_n (pc := 8) X 1 dX9_moved_8 rfl ?_
    refine V_iret (pc := 9) X Q rfl rfl dX9_moved_9 ?_
    exact ⟨⟨_, rfl, fun _ => rfl, fun x y => absurd k1 x⟩, rfl⟩
  · have ka : a.1 ≠ 0 := fun y => c1 (by rw [y]; rfl)
    refine V_iload_n (pc := 4) X 2 dX9_moved_4 rfl ?_
    refine V_if_ne (pc := 5) X 10 dX9_moved_5 (by decide) (fun c5 => ?_) (fun c5 => ?_)
    · have kb : b.1 ≠ 0 := fun y => c5 (by rw [y]; rfl)
      have eP := hP ka
      have eR := hR kb
      subst eP
      subst eR
      refine V_iload_n (pc := 10) X 0 dX9_moved_10 rfl ?_
      refine V_iconst (pc := 11) (v := 1) X dX9_moved_11 (by decide) ?_
      show V _ _ _ _ _ _ (Value.int (nI 1) :: _)
      refine V_icmp_ne (pc := 12) X 43 dX9_moved_12 (by decide) (fun c12 => ?_) (fun c12 => ?_)
      · have k12 : ¬ a.1 = 1 := fun y => c12 (by rw [y])
        refine V_iload_n (pc := 43) X 0 dX9_moved_43 rfl ?_
        refine V_iconst (pc := 44) (v := 1) X dX9_moved_44 (by decide) ?_
        show V _ _ _ _ _ _ (Value.int (nI 1) :: _)
        refine V_icmp_ne (pc := 45) X 61 dX9_moved_45 (by decide) (fun c45 => ?_) (fun c45 => ?_)
        · have k45 : ¬ a.1 = 1 := fun y => c45 (by rw [y])
          refine V_iload_n (pc := 61) X 2 dX9_moved_61 rfl ?_
          refine V_iconst (pc := 62) (v := 1) X dX9_moved_62 (by decide) ?_
          show V _ _ _ _ _ _ (Value.int (nI 1) :: _)
          refine V_icmp_ne (pc := 63) X 79 dX9_moved_63 (by decide) (fun c63 => ?_) (fun c63 => ?_)
          · have k63 : ¬ b.1 = 1 := fun y => c63 (by rw [y])
            refine V_iload_n (pc := 79) X 3 dX9_moved_79 rfl ?_
            refine V_iload_n (pc := 80) X 1 dX9_moved_80 rfl ?_
            refine V_icmp_ge (pc := 81) X 90 dX9_moved_81 (by decide) (fun c81 => ?_) (fun c81 => ?_)
            · have k81 : a.2.1 ≤ b.2.1 := (nI_leI (by omega) (by omega)).mp c81
              refine V_iload_n (pc := 90) X 3 dX9_moved_90 rfl ?_
              refine V_iload_n (pc := 91) X 1 dX9_moved_91 rfl ?_
              refine V_icmp_ne (pc := 92) X 99 dX9_moved_92 (by decide) (fun c92 => ?_) (fun c92 => ?_)
              · have k92 : ¬ b.2.1 = a.2.1 := fun y => c92 (by rw [y])
                refine V_iload_n (pc := 99) X 1 dX9_moved_99 rfl ?_
                refine V_iret (pc := 100) X Q rfl rfl dX9_moved_100 ?_
                refine ⟨?_, rfl⟩
                refine ⟨_, rfl, fun y => absurd y (by omega), fun _ _ => ?_⟩
                first
                | (have e : trb a b = (a.1, a.2.1 + 1, a.2.2) := (trb_1 ka (by omega)).trans (if_pos (by omega))
                   rw [e, if_neg (show ¬ a.1 = 0 from ka)]; done)
                | (have e : trb a b = a := (trb_1 ka (by omega)).trans (if_neg (by omega))
                   rw [e, if_neg ka]; done)
                | (have e : trb a b = (a.1, a.2.1 - 1, a.2.2) := (trb_2 ka (by omega)).trans (if_pos (by omega))
                   rw [e, if_neg (show ¬ a.1 = 0 from ka)]; done)
                | (have e : trb a b = (0, 0, a.2.2) := (trb_2 ka (by omega)).trans ((if_neg (by omega)).trans (if_pos (by omega)))
                   rw [e, if_pos rfl]; done)
                | (have e : trb a b = a := (trb_2 ka (by omega)).trans ((if_neg (by omega)).trans (if_neg (by omega)))
                   rw [e, if_neg ka]; done)
              · have k92 : b.2.1 = a.2.1 := (nI_eq (by omega) (by omega)).mp c92
                refine V_iconst (pc := 95) (v := (-1)) X dX9_moved_95 (by decide) ?_
                refine V_goto (pc := 96) X 100 dX9_moved_96 (by decide) ?_
                refine V_iret (pc := 100) X Q rfl rfl dX9_moved_100 ?_
                refine ⟨?_, rfl⟩
                refine ⟨_, rfl, fun y => absurd y (by omega), fun _ _ => ?_⟩
                first
                | (have e : trb a b = (a.1, a.2.1 + 1, a.2.2) := (trb_1 ka (by omega)).trans (if_pos (by omega))
                   rw [e, if_neg (show ¬ a.1 = 0 from ka)]; done)
                | (have e : trb a b = a := (trb_1 ka (by omega)).trans (if_neg (by omega))
                   rw [e, if_neg ka]; done)
                | (have e : trb a b = (a.1, a.2.1 - 1, a.2.2) := (trb_2 ka (by omega)).trans (if_pos (by omega))
                   rw [e, if_neg (show ¬ a.1 = 0 from ka)]; done)
                | (have e : trb a b = (0, 0, a.2.2) := (trb_2 ka (by omega)).trans ((if_neg (by omega)).trans (if_pos (by omega)))
                   rw [e, if_pos rfl]; done)
                | (have e : trb a b = a := (trb_2 ka (by omega)).trans ((if_neg (by omega)).trans (if_neg (by omega)))
                   rw [e, if_neg ka]; done)
            · have k81 : ¬ a.2.1 ≤ b.2.1 := fun y => c81 (nI_le y (by omega))
              refine V_iload_n (pc := 84) X 1 dX9_moved_84 rfl ?_
              refine V_iconst (pc := 85) (v := 1) X dX9_moved_85 (by decide) ?_
              show V _ _ _ _ _ _ (Value.int (nI 1) :: _)
              refine V_isub (pc := 86) X dX9_moved_86 ?_
              rw [pk_sub (by omega)]
              refine V_goto (pc := 87) X 100 dX9_moved_87 (by decide) ?_
              refine V_iret (pc := 100) X Q rfl rfl dX9_moved_100 ?_
              refine ⟨?_, rfl⟩
              refine ⟨_, rfl, fun y => absurd y (by omega), fun _ _ => ?_⟩
              first
              | (have e : trb a b = (a.1, a.2.1 + 1, a.2.2) := (trb_1 ka (by omega)).trans (if_pos (by omega))
                 rw [e, if_neg (show ¬ a.1 = 0 from ka)]; done)
              | (have e : trb a b = a := (trb_1 ka (by omega)).trans (if_neg (by omega))
                 rw [e, if_neg ka]; done)
              | (have e : trb a b = (a.1, a.2.1 - 1, a.2.2) := (trb_2 ka (by omega)).trans (if_pos (by omega))
                 rw [e, if_neg (show ¬ a.1 = 0 from ka)]; done)
              | (have e : trb a b = (0, 0, a.2.2) := (trb_2 ka (by omega)).trans ((if_neg (by omega)).trans (if_pos (by omega)))
                 rw [e, if_pos rfl]; done)
              | (have e : trb a b = a := (trb_2 ka (by omega)).trans ((if_neg (by omega)).trans (if_neg (by omega)))
                 rw [e, if_neg ka]; done)
          · have k63 : b.1 = 1 := (nI_eq (by omega) (by decide)).mp c63
            refine V_iload_n (pc := 66) X 3 dX9_moved_66 rfl ?_
            refine V_iload_n (pc := 67) X 1 dX9_moved_67 rfl ?_
            refine V_icmp_gt (pc := 68) X 77 dX9_moved_68 (by decide) (fun c68 => ?_) (fun c68 => ?_)
            · have k68 : a.2.1 < b.2.1 := (nI_ltI (by omega) (by omega)).mp c68
              refine V_iload_n (pc := 77) X 1 dX9_moved_77 rfl ?_
              refine V_iret (pc := 78) X Q rfl rfl dX9_moved_78 ?_
              refine ⟨?_, rfl⟩
              refine ⟨_, rfl, fun y => absurd y (by omega), fun _ _ => ?_⟩
              first
              | (have e : trb a b = (a.1, a.2.1 + 1, a.2.2) := (trb_1 ka (by omega)).trans (if_pos (by omega))
                 rw [e, if_neg (show ¬ a.1 = 0 from ka)]; done)
              | (have e : trb a b = a := (trb_1 ka (by omega)).trans (if_neg (by omega))
                 rw [e, if_neg ka]; done)
              | (have e : trb a b = (a.1, a.2.1 - 1, a.2.2) := (trb_2 ka (by omega)).trans (if_pos (by omega))
                 rw [e, if_neg (show ¬ a.1 = 0 from ka)]; done)
              | (have e : trb a b = (0, 0, a.2.2) := (trb_2 ka (by omega)).trans ((if_neg (by omega)).trans (if_pos (by omega)))
                 rw [e, if_pos rfl]; done)
              | (have e : trb a b = a := (trb_2 ka (by omega)).trans ((if_neg (by omega)).trans (if_neg (by omega)))
                 rw [e, if_neg ka]; done)
            · have k68 : ¬ a.2.1 < b.2.1 := fun y => c68 (nI_lt y (by omega))
              refine V_iload_n (pc := 71) X 1 dX9_moved_71 rfl ?_
              refine V_iconst (pc := 72) (v := 1) X dX9_moved_72 (by decide) ?_
              show V _ _ _ _ _ _ (Value.int (nI 1) :: _)
              refine V_iadd (pc := 73) X dX9_moved_73 ?_
              rw [nI_add]
              refine V_goto (pc := 74) X 78 dX9_moved_74 (by decide) ?_
              refine V_iret (pc := 78) X Q rfl rfl dX9_moved_78 ?_
              refine ⟨?_, rfl⟩
              refine ⟨_, rfl, fun y => absurd y (by omega), fun _ _ => ?_⟩
              first
              | (have e : trb a b = (a.1, a.2.1 + 1, a.2.2) := (trb_1 ka (by omega)).trans (if_pos (by omega))
                 rw [e, if_neg (show ¬ a.1 = 0 from ka)]; done)
              | (have e : trb a b = a := (trb_1 ka (by omega)).trans (if_neg (by omega))
                 rw [e, if_neg ka]; done)
              | (have e : trb a b = (a.1, a.2.1 - 1, a.2.2) := (trb_2 ka (by omega)).trans (if_pos (by omega))
                 rw [e, if_neg (show ¬ a.1 = 0 from ka)]; done)
              | (have e : trb a b = (0, 0, a.2.2) := (trb_2 ka (by omega)).trans ((if_neg (by omega)).trans (if_pos (by omega)))
                 rw [e, if_pos rfl]; done)
              | (have e : trb a b = a := (trb_2 ka (by omega)).trans ((if_neg (by omega)).trans (if_neg (by omega)))
                 rw [e, if_neg ka]; done)
        · have k45 : a.1 = 1 := (nI_eq (by omega) (by decide)).mp c45
          refine V_iload_n (pc := 48) X 3 dX9_moved_48 rfl ?_
          refine V_iload_n (pc := 49) X 1 dX9_moved_49 rfl ?_
          refine V_icmp_ge (pc := 50) X 59 dX9_moved_50 (by decide) (fun c50 => ?_) (fun c50 => ?_)
          · have k50 : a.2.1 ≤ b.2.1 := (nI_leI (by omega) (by omega)).mp c50
            refine V_iload_n (pc := 59) X 1 dX9_moved_59 rfl ?_
            refine V_iret (pc := 60) X Q rfl rfl dX9_moved_60 ?_
            refine ⟨?_, rfl⟩
            refine ⟨_, rfl, fun y => absurd y (by omega), fun _ _ => ?_⟩
            first
            | (have e : trb a b = (a.1, a.2.1 + 1, a.2.2) := (trb_1 ka (by omega)).trans (if_pos (by omega))
               rw [e, if_neg (show ¬ a.1 = 0 from ka)]; done)
            | (have e : trb a b = a := (trb_1 ka (by omega)).trans (if_neg (by omega))
               rw [e, if_neg ka]; done)
            | (have e : trb a b = (a.1, a.2.1 - 1, a.2.2) := (trb_2 ka (by omega)).trans (if_pos (by omega))
               rw [e, if_neg (show ¬ a.1 = 0 from ka)]; done)
            | (have e : trb a b = (0, 0, a.2.2) := (trb_2 ka (by omega)).trans ((if_neg (by omega)).trans (if_pos (by omega)))
               rw [e, if_pos rfl]; done)
            | (have e : trb a b = a := (trb_2 ka (by omega)).trans ((if_neg (by omega)).trans (if_neg (by omega)))
               rw [e, if_neg ka]; done)
          · have k50 : ¬ a.2.1 ≤ b.2.1 := fun y => c50 (nI_le y (by omega))
            refine V_iload_n (pc := 53) X 1 dX9_moved_53 rfl ?_
            refine V_iconst (pc := 54) (v := 1) X dX9_moved_54 (by decide) ?_
            show V _ _ _ _ _ _ (Value.int (nI 1) :: _)
            refine V_isub (pc := 55) X dX9_moved_55 ?_
            rw [pk_sub (by omega)]
            
            refine V_goto (pc := 56) X 60 dX9_moved_56 (by decide) ?_
            refine V_iret (pc := 60) X Q rfl rfl dX9_moved_60 ?_
            refine ⟨?_, rfl⟩
            refine ⟨_, rfl, fun y => absurd y (by omega), fun _ _ => ?_⟩
            first
            | (have e : trb a b = (a.1, a.2.1 + 1, a.2.2) := (trb_1 ka (by omega)).trans (if_pos (by omega))
               rw [e, if_neg (show ¬ a.1 = 0 from ka)]; done)
            | (have e : trb a b = a := (trb_1 ka (by omega)).trans (if_neg (by omega))
               rw [e, if_neg ka]; done)
            | (have e : trb a b = (a.1, a.2.1 - 1, a.2.2) := (trb_2 ka (by omega)).trans (if_pos (by omega))
               rw [e, if_neg (show ¬ a.1 = 0 from ka)]; done)
            | (have e : trb a b = (0, 0, a.2.2) := (trb_2 ka (by omega)).trans ((if_neg (by omega)).trans (if_pos (by omega)))
               rw [e, if_pos rfl]; done)
            | (have e : trb a b = a := (trb_2 ka (by omega)).trans ((if_neg (by omega)).trans (if_neg (by omega)))
               rw [e, if_neg ka]; done)
      · have k12 : a.1 = 1 := (nI_eq (by omega) (by decide)).mp c12
        refine V_iload_n (pc := 15) X 2 dX9_moved_15 rfl ?_
        refine V_iconst (pc := 16) (v := 1) X dX9_moved_16 (by decide) ?_
        show V _ _ _ _ _ _ (Value.int (nI 1) :: _)
        refine V_icmp_ne (pc := 17) X 43 dX9_moved_17 (by decide) (fun c17 => ?_) (fun c17 => ?_)
        · have k17 : ¬ b.1 = 1 := fun y => c17 (by rw [y])
          refine V_iload_n (pc := 43) X 0 dX9_moved_43 rfl ?_
          refine V_iconst (pc := 44) (v := 1) X dX9_moved_44 (by decide) ?_
          show V _ _ _ _ _ _ (Value.int (nI 1) :: _)
          refine V_icmp_ne (pc := 45) X 61 dX9_moved_45 (by decide) (fun c45 => ?_) (fun c45 => ?_)
          · have k45 : ¬ a.1 = 1 := fun y => c45 (by rw [y])
            refine V_iload_n (pc := 61) X 2 dX9_moved_61 rfl ?_
            refine V_iconst (pc := 62) (v := 1) X dX9_moved_62 (by decide) ?_
            show V _ _ _ _ _ _ (Value.int (nI 1) :: _)
            refine V_icmp_ne (pc := 63) X 79 dX9_moved_63 (by decide) (fun c63 => ?_) (fun c63 => ?_)
            · have k63 : ¬ b.1 = 1 := fun y => c63 (by rw [y])
              refine V_iload_n (pc := 79) X 3 dX9_moved_79 rfl ?_
              refine V_iload_n (pc := 80) X 1 dX9_moved_80 rfl ?_
              refine V_icmp_ge (pc := 81) X 90 dX9_moved_81 (by decide) (fun c81 => ?_) (fun c81 => ?_)
              · have k81 : a.2.1 ≤ b.2.1 := (nI_leI (by omega) (by omega)).mp c81
                refine V_iload_n (pc := 90) X 3 dX9_moved_90 rfl ?_
                refine V_iload_n (pc := 91) X 1 dX9_moved_91 rfl ?_
                refine V_icmp_ne (pc := 92) X 99 dX9_moved_92 (by decide) (fun c92 => ?_) (fun c92 => ?_)
                · have k92 : ¬ b.2.1 = a.2.1 := fun y => c92 (by rw [y])
                  refine V_iload_n (pc := 99) X 1 dX9_moved_99 rfl ?_
                  refine V_iret (pc := 100) X Q rfl rfl dX9_moved_100 ?_
                  refine ⟨?_, rfl⟩
                  refine ⟨_, rfl, fun y => absurd y (by omega), fun _ _ => ?_⟩
                  first
                  | (have e : trb a b = (a.1, a.2.1 + 1, a.2.2) := (trb_1 ka (by omega)).trans (if_pos (by omega))
                     rw [e, if_neg (show ¬ a.1 = 0 from ka)]; done)
                  | (have e : trb a b = a := (trb_1 ka (by omega)).trans (if_neg (by omega))
                     rw [e, if_neg ka]; done)
                  | (have e : trb a b = (a.1, a.2.1 - 1, a.2.2) := (trb_2 ka (by omega)).trans (if_pos (by omega))
                     rw [e, if_neg (show ¬ a.1 = 0 from ka)]; done)
                  | (have e : trb a b = (0, 0, a.2.2) := (trb_2 ka (by omega)).trans ((if_neg (by omega)).trans (if_pos (by omega)))
                     rw [e, if_pos rfl]; done)
                  | (have e : trb a b = a := (trb_2 ka (by omega)).trans ((if_neg (by omega)).trans (if_neg (by omega)))
                     rw [e, if_neg ka]; done)
                · have k92 : b.2.1 = a.2.1 := (nI_eq (by omega) (by omega)).mp c92
                  refine V_iconst (pc := 95) (v := (-1)) X dX9_moved_95 (by decide) ?_
                  refine V_goto (pc := 96) X 100 dX9_moved_96 (by decide) ?_
                  refine V_iret (pc := 100) X Q rfl rfl dX9_moved_100 ?_
                  refine ⟨?_, rfl⟩
                  refine ⟨_, rfl, fun y => absurd y (by omega), fun _ _ => ?_⟩
                  first
                  | (have e : trb a b = (a.1, a.2.1 + 1, a.2.2) := (trb_1 ka (by omega)).trans (if_pos (by omega))
                     rw [e, if_neg (show ¬ a.1 = 0 from ka)]; done)
                  | (have e : trb a b = a := (trb_1 ka (by omega)).trans (if_neg (by omega))
                     rw [e, if_neg ka]; done)
                  | (have e : trb a b = (a.1, a.2.1 - 1, a.2.2) := (trb_2 ka (by omega)).trans (if_pos (by omega))
                     rw [e, if_neg (show ¬ a.1 = 0 from ka)]; done)
                  | (have e : trb a b = (0, 0, a.2.2) := (trb_2 ka (by omega)).trans ((if_neg (by omega)).trans (if_pos (by omega)))
                     rw [e, if_pos rfl]; done)
                  | (have e : trb a b = a := (trb_2 ka (by omega)).trans ((if_neg (by omega)).trans (if_neg (by omega)))
                     rw [e, if_neg ka]; done)
              · have k81 : ¬ a.2.1 ≤ b.2.1 := fun y => c81 (nI_le y (by omega))
                refine V_iload_n (pc := 84) X 1 dX9_moved_84 rfl ?_
                refine V_iconst (pc := 85) (v := 1) X dX9_moved_85 (by decide) ?_
                show V _ _ _ _ _ _ (Value.int (nI 1) :: _)
                refine V_isub (pc := 86) X dX9_moved_86 ?_
                rw [pk_sub (by omega)]
                refine V_goto (pc := 87) X 100 dX9_moved_87 (by decide) ?_
                refine V_iret (pc := 100) X Q rfl rfl dX9_moved_100 ?_
                refine ⟨?_, rfl⟩
                refine ⟨_, rfl, fun y => absurd y (by omega), fun _ _ => ?_⟩
                first
                | (have e : trb a b = (a.1, a.2.1 + 1, a.2.2) := (trb_1 ka (by omega)).trans (if_pos (by omega))
                   rw [e, if_neg (show ¬ a.1 = 0 from ka)]; done)
                | (have e : trb a b = a := (trb_1 ka (by omega)).trans (if_neg (by omega))
                   rw [e, if_neg ka]; done)
                | (have e : trb a b = (a.1, a.2.1 - 1, a.2.2) := (trb_2 ka (by omega)).trans (if_pos (by omega))
                   rw [e, if_neg (show ¬ a.1 = 0 from ka)]; done)
                | (have e : trb a b = (0, 0, a.2.2) := (trb_2 ka (by omega)).trans ((if_neg (by omega)).trans (if_pos (by omega)))
                   rw [e, if_pos rfl]; done)
                | (have e : trb a b = a := (trb_2 ka (by omega)).trans ((if_neg (by omega)).trans (if_neg (by omega)))
                   rw [e, if_neg ka]; done)
            · have k63 : b.1 = 1 := (nI_eq (by omega) (by decide)).mp c63
              refine V_iload_n (pc := 66) X 3 dX9_moved_66 rfl ?_
              refine V_iload_n (pc := 67) X 1 dX9_moved_67 rfl ?_
              refine V_icmp_gt (pc := 68) X 77 dX9_moved_68 (by decide) (fun c68 => ?_) (fun c68 => ?_)
              · have k68 : a.2.1 < b.2.1 := (nI_ltI (by omega) (by omega)).mp c68
                refine V_iload_n (pc := 77) X 1 dX9_moved_77 rfl ?_
                refine V_iret (pc := 78) X Q rfl rfl dX9_moved_78 ?_
                refine ⟨?_, rfl⟩
                refine ⟨_, rfl, fun y => absurd y (by omega), fun _ _ => ?_⟩
                first
                | (have e : trb a b = (a.1, a.2.1 + 1, a.2.2) := (trb_1 ka (by omega)).trans (if_pos (by omega))
                   rw [e, if_neg (show ¬ a.1 = 0 from ka)]; done)
                | (have e : trb a b = a := (trb_1 ka (by omega)).trans (if_neg (by omega))
                   rw [e, if_neg ka]; done)
                | (have e : trb a b = (a.1, a.2.1 - 1, a.2.2) := (trb_2 ka (by omega)).trans (if_pos (by omega))
                   rw [e, if_neg (show ¬ a.1 = 0 from ka)]; done)
                | (have e : trb a b = (0, 0, a.2.2) := (trb_2 ka (by omega)).trans ((if_neg (by omega)).trans (if_pos (by omega)))
                   rw [e, if_pos rfl]; done)
                | (have e : trb a b = a := (trb_2 ka (by omega)).trans ((if_neg (by omega)).trans (if_neg (by omega)))
                   rw [e, if_neg ka]; done)
              · have k68 : ¬ a.2.1 < b.2.1 := fun y => c68 (nI_lt y (by omega))
                refine V_iload_n (pc := 71) X 1 dX9_moved_71 rfl ?_
                refine V_iconst (pc := 72) (v := 1) X dX9_moved_72 (by decide) ?_
                show V _ _ _ _ _ _ (Value.int (nI 1) :: _)
                refine V_iadd (pc := 73) X dX9_moved_73 ?_
                rw [nI_add]
                refine V_goto (pc := 74) X 78 dX9_moved_74 (by decide) ?_
                refine V_iret (pc := 78) X Q rfl rfl dX9_moved_78 ?_
                refine ⟨?_, rfl⟩
                refine ⟨_, rfl, fun y => absurd y (by omega), fun _ _ => ?_⟩
                first
                | (have e : trb a b = (a.1, a.2.1 + 1, a.2.2) := (trb_1 ka (by omega)).trans (if_pos (by omega))
                   rw [e, if_neg (show ¬ a.1 = 0 from ka)]; done)
                | (have e : trb a b = a := (trb_1 ka (by omega)).trans (if_neg (by omega))
                   rw [e, if_neg ka]; done)
                | (have e : trb a b = (a.1, a.2.1 - 1, a.2.2) := (trb_2 ka (by omega)).trans (if_pos (by omega))
                   rw [e, if_neg (show ¬ a.1 = 0 from ka)]; done)
                | (have e : trb a b = (0, 0, a.2.2) := (trb_2 ka (by omega)).trans ((if_neg (by omega)).trans (if_pos (by omega)))
                   rw [e, if_pos rfl]; done)
                | (have e : trb a b = a := (trb_2 ka (by omega)).trans ((if_neg (by omega)).trans (if_neg (by omega)))
                   rw [e, if_neg ka]; done)
          · have k45 : a.1 = 1 := (nI_eq (by omega) (by decide)).mp c45
            refine V_iload_n (pc := 48) X 3 dX9_moved_48 rfl ?_
            refine V_iload_n (pc := 49) X 1 dX9_moved_49 rfl ?_
            refine V_icmp_ge (pc := 50) X 59 dX9_moved_50 (by decide) (fun c50 => ?_) (fun c50 => ?_)
            · have k50 : a.2.1 ≤ b.2.1 := (nI_leI (by omega) (by omega)).mp c50
              refine V_iload_n (pc := 59) X 1 dX9_moved_59 rfl ?_
              refine V_iret (pc := 60) X Q rfl rfl dX9_moved_60 ?_
              refine ⟨?_, rfl⟩
              refine ⟨_, rfl, fun y => absurd y (by omega), fun _ _ => ?_⟩
              first
              | (have e : trb a b = (a.1, a.2.1 + 1, a.2.2) := (trb_1 ka (by omega)).trans (if_pos (by omega))
                 rw [e, if_neg (show ¬ a.1 = 0 from ka)]; done)
              | (have e : trb a b = a := (trb_1 ka (by omega)).trans (if_neg (by omega))
                 rw [e, if_neg ka]; done)
              | (have e : trb a b = (a.1, a.2.1 - 1, a.2.2) := (trb_2 ka (by omega)).trans (if_pos (by omega))
                 rw [e, if_neg (show ¬ a.1 = 0 from ka)]; done)
              | (have e : trb a b = (0, 0, a.2.2) := (trb_2 ka (by omega)).trans ((if_neg (by omega)).trans (if_pos (by omega)))
                 rw [e, if_pos rfl]; done)
              | (have e : trb a b = a := (trb_2 ka (by omega)).trans ((if_neg (by omega)).trans (if_neg (by omega)))
                 rw [e, if_neg ka]; done)
            · have k50 : ¬ a.2.1 ≤ b.2.1 := fun y => c50 (nI_le y (by omega))
              refine V_iload_n (pc := 53) X 1 dX9_moved_53 rfl ?_
              refine V_iconst (pc := 54) (v := 1) X dX9_moved_54 (by decide) ?_
              show V _ _ _ _ _ _ (Value.int (nI 1) :: _)
              refine V_isub (pc := 55) X dX9_moved_55 ?_
              rw [pk_sub (by omega)]
              
              refine V_goto (pc := 56) X 60 dX9_moved_56 (by decide) ?_
              refine V_iret (pc := 60) X Q rfl rfl dX9_moved_60 ?_
              refine ⟨?_, rfl⟩
              refine ⟨_, rfl, fun y => absurd y (by omega), fun _ _ => ?_⟩
              first
              | (have e : trb a b = (a.1, a.2.1 + 1, a.2.2) := (trb_1 ka (by omega)).trans (if_pos (by omega))
                 rw [e, if_neg (show ¬ a.1 = 0 from ka)]; done)
              | (have e : trb a b = a := (trb_1 ka (by omega)).trans (if_neg (by omega))
                 rw [e, if_neg ka]; done)
              | (have e : trb a b = (a.1, a.2.1 - 1, a.2.2) := (trb_2 ka (by omega)).trans (if_pos (by omega))
                 rw [e, if_neg (show ¬ a.1 = 0 from ka)]; done)
              | (have e : trb a b = (0, 0, a.2.2) := (trb_2 ka (by omega)).trans ((if_neg (by omega)).trans (if_pos (by omega)))
                 rw [e, if_pos rfl]; done)
              | (have e : trb a b = a := (trb_2 ka (by omega)).trans ((if_neg (by omega)).trans (if_neg (by omega)))
                 rw [e, if_neg ka]; done)
        · have k17 : b.1 = 1 := (nI_eq (by omega) (by decide)).mp c17
          refine V_iload_n (pc := 20) X 3 dX9_moved_20 rfl ?_
          refine V_iload_n (pc := 21) X 1 dX9_moved_21 rfl ?_
          refine V_icmp_lt (pc := 22) X 35 dX9_moved_22 (by decide) (fun c22 => ?_) (fun c22 => ?_)
          · have k22 : b.2.1 < a.2.1 := (nI_ltI (by omega) (by omega)).mp c22
            refine V_iload_n (pc := 35) X 1 dX9_moved_35 rfl ?_
            refine V_iconst (pc := 36) (v := 1) X dX9_moved_36 (by decide) ?_
            show V _ _ _ _ _ _ (Value.int (nI 1) :: _)
            refine V_iadd (pc := 37) X dX9_moved_37 ?_
            rw [nI_add]
            refine V_goto (pc := 38) X 42 dX9_moved_38 (by decide) ?_
            refine V_iret (pc := 42) X Q rfl rfl dX9_moved_42 ?_
            refine ⟨?_, rfl⟩
            refine ⟨_, rfl, fun y => absurd y (by omega), fun _ _ => ?_⟩
            first
            | (have e : trb a b = (a.1, a.2.1 + 1, a.2.2) := (trb_1 ka (by omega)).trans (if_pos (by omega))
               rw [e, if_neg (show ¬ a.1 = 0 from ka)]; done)
            | (have e : trb a b = a := (trb_1 ka (by omega)).trans (if_neg (by omega))
               rw [e, if_neg ka]; done)
            | (have e : trb a b = (a.1, a.2.1 - 1, a.2.2) := (trb_2 ka (by omega)).trans (if_pos (by omega))
               rw [e, if_neg (show ¬ a.1 = 0 from ka)]; done)
            | (have e : trb a b = (0, 0, a.2.2) := (trb_2 ka (by omega)).trans ((if_neg (by omega)).trans (if_pos (by omega)))
               rw [e, if_pos rfl]; done)
            | (have e : trb a b = a := (trb_2 ka (by omega)).trans ((if_neg (by omega)).trans (if_neg (by omega)))
               rw [e, if_neg ka]; done)
          · have k22 : ¬ b.2.1 < a.2.1 := fun y => c22 (nI_lt y (by omega))
            refine V_iload_n (pc := 25) X 3 dX9_moved_25 rfl ?_
            refine V_iload_n (pc := 26) X 1 dX9_moved_26 rfl ?_
            refine V_icmp_ne (pc := 27) X 41 dX9_moved_27 (by decide) (fun c27 => ?_) (fun c27 => ?_)
            · have k27 : ¬ b.2.1 = a.2.1 := fun y => c27 (by rw [y])
              refine V_iload_n (pc := 41) X 1 dX9_moved_41 rfl ?_
              refine V_iret (pc := 42) X Q rfl rfl dX9_moved_42 ?_
              refine ⟨?_, rfl⟩
              refine ⟨_, rfl, fun y => absurd y (by omega), fun _ _ => ?_⟩
              first
              | (have e : trb a b = (a.1, a.2.1 + 1, a.2.2) := (trb_1 ka (by omega)).trans (if_pos (by omega))
                 rw [e, if_neg (show ¬ a.1 = 0 from ka)]; done)
              | (have e : trb a b = a := (trb_1 ka (by omega)).trans (if_neg (by omega))
                 rw [e, if_neg ka]; done)
              | (have e : trb a b = (a.1, a.2.1 - 1, a.2.2) := (trb_2 ka (by omega)).trans (if_pos (by omega))
                 rw [e, if_neg (show ¬ a.1 = 0 from ka)]; done)
              | (have e : trb a b = (0, 0, a.2.2) := (trb_2 ka (by omega)).trans ((if_neg (by omega)).trans (if_pos (by omega)))
                 rw [e, if_pos rfl]; done)
              | (have e : trb a b = a := (trb_2 ka (by omega)).trans ((if_neg (by omega)).trans (if_neg (by omega)))
                 rw [e, if_neg ka]; done)
            · have k27 : b.2.1 = a.2.1 := (nI_eq (by omega) (by omega)).mp c27
              refine V_iload (pc := 30) X 4 dX9_moved_30 rfl ?_
              refine V_if_eq (pc := 32) X 41 dX9_moved_32 (by decide) (fun c32 => ?_) (fun c32 => ?_)
              · have k32 : ¬ b.2.2.2 = 0 := fun y => by rw [if_pos y] at c32; exact absurd c32 (by decide)
                refine V_iload_n (pc := 41) X 1 dX9_moved_41 rfl ?_
                refine V_iret (pc := 42) X Q rfl rfl dX9_moved_42 ?_
                refine ⟨?_, rfl⟩
                refine ⟨_, rfl, fun y => absurd y (by omega), fun _ _ => ?_⟩
                first
                | (have e : trb a b = (a.1, a.2.1 + 1, a.2.2) := (trb_1 ka (by omega)).trans (if_pos (by omega))
                   rw [e, if_neg (show ¬ a.1 = 0 from ka)]; done)
                | (have e : trb a b = a := (trb_1 ka (by omega)).trans (if_neg (by omega))
                   rw [e, if_neg ka]; done)
                | (have e : trb a b = (a.1, a.2.1 - 1, a.2.2) := (trb_2 ka (by omega)).trans (if_pos (by omega))
                   rw [e, if_neg (show ¬ a.1 = 0 from ka)]; done)
                | (have e : trb a b = (0, 0, a.2.2) := (trb_2 ka (by omega)).trans ((if_neg (by omega)).trans (if_pos (by omega)))
                   rw [e, if_pos rfl]; done)
                | (have e : trb a b = a := (trb_2 ka (by omega)).trans ((if_neg (by omega)).trans (if_neg (by omega)))
                   rw [e, if_neg ka]; done)
              · have k32 : b.2.2.2 = 0 := by
                  by_cases y : b.2.2.2 = 0
                  · exact y
                  · rw [if_neg y] at c32; exact absurd rfl c32
                refine V_iload_n (pc := 35) X 1 dX9_moved_35 rfl ?_
                refine V_iconst (pc := 36) (v := 1) X dX9_moved_36 (by decide) ?_
                show V _ _ _ _ _ _ (Value.int (nI 1) :: _)
                refine V_iadd (pc := 37) X dX9_moved_37 ?_
                rw [nI_add]
                refine V_goto (pc := 38) X 42 dX9_moved_38 (by decide) ?_
                refine V_iret (pc := 42) X Q rfl rfl dX9_moved_42 ?_
                refine ⟨?_, rfl⟩
                refine ⟨_, rfl, fun y => absurd y (by omega), fun _ _ => ?_⟩
                first
                | (have e : trb a b = (a.1, a.2.1 + 1, a.2.2) := (trb_1 ka (by omega)).trans (if_pos (by omega))
                   rw [e, if_neg (show ¬ a.1 = 0 from ka)]; done)
                | (have e : trb a b = a := (trb_1 ka (by omega)).trans (if_neg (by omega))
                   rw [e, if_neg ka]; done)
                | (have e : trb a b = (a.1, a.2.1 - 1, a.2.2) := (trb_2 ka (by omega)).trans (if_pos (by omega))
                   rw [e, if_neg (show ¬ a.1 = 0 from ka)]; done)
                | (have e : trb a b = (0, 0, a.2.2) := (trb_2 ka (by omega)).trans ((if_neg (by omega)).trans (if_pos (by omega)))
                   rw [e, if_pos rfl]; done)
                | (have e : trb a b = a := (trb_2 ka (by omega)).trans ((if_neg (by omega)).trans (if_neg (by omega)))
                   rw [e, if_neg ka]; done)
    · have k5 : b.1 = 0 := (nI_eq (by omega) (by decide)).mp c5
      refine V_iload_n (pc := 8) X 1 dX9_moved_8 rfl ?_
      refine V_iret (pc := 9) X Q rfl rfl dX9_moved_9 ?_
      exact ⟨⟨_, rfl, fun _ => rfl, fun x y => absurd k5 y⟩, rfl⟩
