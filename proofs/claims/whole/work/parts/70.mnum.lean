/-! THE MODEL: NUMBERS -/
theorem num_app (tb : Nat → Nat × Nat) : ∀ (l : List Nat) (x : Nat) (a : Int64), num tb (l ++ [x]) a = num tb l a * 31 + lN (tb x).1
  | [], _, _ => rfl
  | y :: l, x, a => num_app tb l x (a * 31 + lN (tb y).1)
theorem cow_app (tb : Nat → Nat × Nat) (g : Nat) : ∀ (l : List Nat) (x : Nat), cow tb g (l ++ [x]) = cow tb g l + if (tb x).2 = g then 1 else 0
  | [], x => by show (if (tb x).2 = g then 1 else 0) + 0 = 0 + _; omega
  | y :: l, x => by
    show (if (tb y).2 = g then 1 else 0) + cow tb g (l ++ [x]) = (if (tb y).2 = g then 1 else 0) + cow tb g l + _
    rw [cow_app tb g l x]; omega
theorem y_textNumber {E : EV} {h : AH} {q : Nat} {A : Nat → Nat} {F : MS'} {s : SQ} (mp : MP h q A F) (rm : RM (zT s) F s) (w : WS' s) (hH : (hop (zH s)).length ≤ 200) (hT : ∀ y ∈ zL s, (zT s y).1 < 127 ∧ (zT s y).2 ≤ 1) {x : Int32} : Ct E yX9_textNumber cX9_textNumber 5 (some .long) 3 0 [.ref q, .int x] h (fun v h1 => (∃ e : Nat, e ≤ 1 ∧ x = nI e ∧ v = some (.long (num (zT s) (eX (zE s e)) 7)) ∧ MR h h1 q A s 0) ∨ (¬ (x = 0 ∨ x = 1) ∧ (∃ u : Int64, v = some (.long u)) ∧ MR h h1 q A s 1)) noX := by
  refine Ct_of RX9 (by decide +kernel) rfl (Nat.le_of_ble_eq_true rfl) (fun Γ X nt Q hin => ?_)
  have gm := FM.refl h
  refine V_aload_n (pc := 0) X 0 dX9_textNumber_0 rfl ?_
  refine V_iconst (pc := 1) (v := 0) X dX9_textNumber_1 (by decide) ?_
  show V _ _ _ _ _ _ (Value.int (nI 0) :: _)
  refine M_put (pc := 2) X mp (i := 900) (by unfold isS; decide) fl_X9_92 dX9_textNumber_2 (fun h2 mp2 fm2 => ?_)
  have gm2 := gm.seq fm2
  have rm2 := rm.th w hH (nI 0)
  refine V_iload_n (pc := 5) X 1 dX9_textNumber_5 rfl ?_
  refine V_callS (pc := 6) X _ m_isEnd cw_X9_140 (Q.room (by decide) (by decide)) rfl (Nat.le_of_ble_eq_true rfl) rfl (by omega) dX9_textNumber_6 (fun _ _ z => z.elim) ?_
  rintro v6 h6 ⟨rfl, e6⟩
  rw [e6]
  simp only [Option.toList_some, List.cons_append, List.nil_append]
  refine V_if_ne (pc := 9) X 19 dX9_textNumber_9 (by decide) (fun c9 => ?_) (fun c9 => ?_)
  · have ke : x = 0 ∨ x = 1 := by
      by_cases y : 0 ≤ x ∧ x ≤ 1
      · exact end_iff.mp y
      · rw [if_neg y] at c9; exact absurd rfl c9
    obtain ⟨e, he, rfl⟩ := eq01 ke
    have re := (rm2.1 e he).1
    have ru := (rm2.1 e he).2
    have hx := (w.1 e he).1.1.1
    have tx := re.2.2.2.2.1
    have hXl : (eX (zE s e)).length ≤ 200 := (w.1 e he).1.1.1
    refine V_ldc2 (pc := 19) X lc_X9_219 dX9_textNumber_19 ?_
    refine V_lstore_n (pc := 22) X [(2, .long _), (0, .ref _), (1, .int _)] dX9_textNumber_22 rfl (by decide) rfl ?_
    refine V_iconst (pc := 23) (v := 0) X dX9_textNumber_23 (by decide) ?_
    show V _ _ _ _ _ _ (Value.int (nI 0) :: _)
    refine V_istore (pc := 24) X [(4, .int _), (2, .long _), (0, .ref _), (1, .int _)] dX9_textNumber_24 (by decide) rfl ?_
    have key : ∀ (n k : Nat), (eX (zE s e)).length - k < n → k ≤ (eX (zE s e)).length → V E Γ 0 h2 26 [(4, .int (nI k)), (2, .long (num (zT s) ((eX (zE s e)).take k) 7)), (0, .ref q), (1, .int (nI e))] [] := by
      intro n
      induction n with
      | zero => exact fun k hn => absurd hn (Nat.not_lt_zero _)
      | succ n ih =>
        intro k hn hk
        refine V_iload (pc := 26) X 0 dX9_textNumber_26 rfl ?_
        refine V_aload_n (pc := 28) X 2 dX9_textNumber_28 rfl ?_
        refine V_get (pc := 29) X fl_X9_34 dX9_textNumber_29 mp2.k (mp2.f 909) ?_
        refine V_iload_n (pc := 32) X 3 dX9_textNumber_32 rfl ?_
        refine M_ald (pc := 33) X mp2 ⟨by unfold isA; decide, by decide⟩ (by show _ < 3; omega) dX9_textNumber_33 ?_
        rw [tx.2.1]
        refine V_icmp_ge (pc := 34) X 58 dX9_textNumber_34 (by decide) (fun c34 => ?_) (fun c34 => ?_)
        · have hie : ¬ k < (eX (zE s e)).length := fun y => nI_ge y (by omega) c34
          refine V_lload_n (pc := 58) X 1 dX9_textNumber_58 rfl ?_
          refine V_lret (pc := 59) X Q rfl dX9_textNumber_59 ?_
          exact Or.inl ⟨e, he, rfl, by rw [List.take_of_length_le (by omega)], _, mp2, gm2, rm2, fu_s⟩
        · have hlt : k < (eX (zE s e)).length := by
            rcases Nat.lt_or_ge k (eX (zE s e)).length with y | y
            · exact y
            · exact absurd (nI_le y (by omega)) c34
          obtain ⟨a, ha⟩ : ∃ a, (eX (zE s e))[k]? = some a := ⟨_, List.getElem?_eq_getElem hlt⟩
          have ca := (hT a ((w.1 e he).1.1.2 a (List.mem_of_getElem? ha))).1
          have eta : (eX (zE s e)).take (k + 1) = (eX (zE s e)).take k ++ [a] := by rw [List.take_add_one, ha]; rfl
          refine V_ldc2 (pc := 37) X lc_X9_221 dX9_textNumber_37 ?_
          refine V_lload_n (pc := 40) X 1 dX9_textNumber_40 rfl ?_
          refine V_lmul (pc := 41) X dX9_textNumber_41 ?_
          refine V_aload_n (pc := 42) X 2 dX9_textNumber_42 rfl ?_
          refine V_iload_n (pc := 43) X 3 dX9_textNumber_43 rfl ?_
          refine V_iload (pc := 44) X 0 dX9_textNumber_44 rfl ?_
          refine V_callV (pc := 46) X clk9 (by decide) mp2.k _ (m_codeAt mp2 (by omega) tx ha) cw_X9_157 (Q.room (by decide) (by decide)) rfl (Nat.le_of_ble_eq_true rfl) rfl (by omega) dX9_textNumber_46 (fun _ _ z => z.elim) ?_
          rintro v46 h46 ⟨rfl, e46⟩
          rw [e46]
          simp only [Option.toList_some, List.cons_append, List.nil_append]
          refine V_i2l (pc := 49) X dX9_textNumber_49 ?_
          rw [nI_l (show (zT s a).1 < 2 ^ 31 by omega)]
          refine V_ladd (pc := 50) X dX9_textNumber_50 ?_
          rw [show (31 : Int64) * num (zT s) ((eX (zE s e)).take k) 7 + lN (zT s a).1 = num (zT s) ((eX (zE s e)).take (k + 1)) 7 by rw [eta, num_app, Int64.mul_comm]]
          refine V_lstore_n (pc := 51) X [(2, .long _), (4, .int _), (0, .ref _), (1, .int _)] dX9_textNumber_51 rfl (by decide) rfl ?_
          refine V_inc1 (pc := 52) X 1 [(4, .int _), (2, .long _), (0, .ref _), (1, .int _)] dX9_textNumber_52 rfl (by decide) rfl ?_
          rw [nI_1]
          refine V_goto (pc := 55) X 26 dX9_textNumber_55 (by decide) ?_
          exact ih (k + 1) (by omega) (by omega)
    exact key ((eX (zE s e)).length + 1) 0 (by omega) (Nat.zero_le _)
  · have ke : ¬ (x = 0 ∨ x = 1) := fun y => by rw [if_pos (end_iff.mpr y)] at c9; exact absurd c9 (by decide)
    refine V_aload_n (pc := 12) X 0 dX9_textNumber_12 rfl ?_
    refine V_iconst (pc := 13) (v := 1) X dX9_textNumber_13 (by decide) ?_
    show V _ _ _ _ _ _ (Value.int (nI 1) :: _)
    refine V_callV (pc := 14) X clk9 (by decide) mp2.k _ (m_fails mp2 (c := nI 1)) cw_X9_144 (Q.room (by decide) (by decide)) rfl (Nat.le_of_ble_eq_true rfl) rfl (by omega) dX9_textNumber_14 (fun _ _ z => z.elim) ?_
    rintro v23 h23 ⟨rfl, mp9, fm9⟩
    simp only [Option.toList_some, List.cons_append, List.nil_append]
    refine V_i2l (pc := 17) X dX9_textNumber_17 ?_
    refine V_lret (pc := 18) X Q rfl dX9_textNumber_18 ?_
    exact Or.inr ⟨ke, ⟨_, rfl⟩, _, mp9, gm2.seq fm9, rm2.th w hH (nI 1), fu_s⟩
theorem y_ownShare {E : EV} {h : AH} {q : Nat} {A : Nat → Nat} {F : MS'} {s : SQ} (mp : MP h q A F) (rm : RM (zT s) F s) (w : WS' s) (hH : (hop (zH s)).length ≤ 200) (hT : ∀ y ∈ zL s, (zT s y).1 < 127 ∧ (zT s y).2 ≤ 1) {x : Int32} : Ct E yX9_ownShare cX9_ownShare 4 (some .float) 3 0 [.ref q, .int x] h (fun v h1 => (∃ e : Nat, e ≤ 1 ∧ x = nI e ∧ (eX (zE s e)).length ≠ 0 ∧ v = some (.float (FP.fdiv (FP.i2f (nI (cow (zT s) e (eX (zE s e))))) (FP.i2f (nI (eX (zE s e)).length)))) ∧ MR h h1 q A s 0) ∨ (¬ (x = 0 ∨ x = 1) ∧ (∃ u : UInt32, v = some (.float u)) ∧ MR h h1 q A s 1) ∨ (∃ e : Nat, e ≤ 1 ∧ x = nI e ∧ (eX (zE s e)).length = 0 ∧ (∃ u : UInt32, v = some (.float u)) ∧ MR h h1 q A s 2)) noX := by
  refine Ct_of RX9 (by decide +kernel) rfl (Nat.le_of_ble_eq_true rfl) (fun Γ X nt Q hin => ?_)
  have gm := FM.refl h
  refine V_aload_n (pc := 0) X 0 dX9_ownShare_0 rfl ?_
  refine V_iconst (pc := 1) (v := 0) X dX9_ownShare_1 (by decide) ?_
  show V _ _ _ _ _ _ (Value.int (nI 0) :: _)
  refine M_put (pc := 2) X mp (i := 900) (by unfold isS; decide) fl_X9_92 dX9_ownShare_2 (fun h2 mp2 fm2 => ?_)
  have gm2 := gm.seq fm2
  have rm2 := rm.th w hH (nI 0)
  refine V_iload_n (pc := 5) X 1 dX9_ownShare_5 rfl ?_
  refine V_callS (pc := 6) X _ m_isEnd cw_X9_140 (Q.room (by decide) (by decide)) rfl (Nat.le_of_ble_eq_true rfl) rfl (by omega) dX9_ownShare_6 (fun _ _ z => z.elim) ?_
  rintro v6 h6 ⟨rfl, e6⟩
  rw [e6]
  simp only [Option.toList_some, List.cons_append, List.nil_append]
  refine V_if_ne (pc := 9) X 19 dX9_ownShare_9 (by decide) (fun c9 => ?_) (fun c9 => ?_)
  · have ke : x = 0 ∨ x = 1 := by
      by_cases y : 0 ≤ x ∧ x ≤ 1
      · exact end_iff.mp y
      · rw [if_neg y] at c9; exact absurd rfl c9
    obtain ⟨e, he, rfl⟩ := eq01 ke
    have re := (rm2.1 e he).1
    have ru := (rm2.1 e he).2
    have hx := (w.1 e he).1.1.1
    have tx := re.2.2.2.2.1
    have hXl : (eX (zE s e)).length ≤ 200 := (w.1 e he).1.1.1
    refine V_iconst (pc := 19) (v := 0) X dX9_ownShare_19 (by decide) ?_
    show V _ _ _ _ _ _ (Value.int (nI 0) :: _)
    refine V_istore_n (pc := 20) X [(2, .int _), (0, .ref _), (1, .int _)] dX9_ownShare_20 rfl (by decide) rfl ?_
    refine V_iconst (pc := 21) (v := 0) X dX9_ownShare_21 (by decide) ?_
    show V _ _ _ _ _ _ (Value.int (nI 0) :: _)
    refine V_istore_n (pc := 22) X [(3, .int _), (2, .int _), (0, .ref _), (1, .int _)] dX9_ownShare_22 rfl (by decide) rfl ?_
    have key : ∀ (n k : Nat), (eX (zE s e)).length - k < n → k ≤ (eX (zE s e)).length → ∀ c : Nat, c = cow (zT s) e ((eX (zE s e)).take k) → V E Γ 0 h2 23 [(3, .int (nI k)), (2, .int (nI c)), (0, .ref q), (1, .int (nI e))] [] := by
      intro n
      induction n with
      | zero => exact fun k hn => absurd hn (Nat.not_lt_zero _)
      | succ n ih =>
        intro k hn hk c hc
        refine V_iload_n (pc := 23) X 0 dX9_ownShare_23 rfl ?_
        refine V_aload_n (pc := 24) X 2 dX9_ownShare_24 rfl ?_
        refine V_get (pc := 25) X fl_X9_34 dX9_ownShare_25 mp2.k (mp2.f 909) ?_
        refine V_iload_n (pc := 28) X 3 dX9_ownShare_28 rfl ?_
        refine M_ald (pc := 29) X mp2 ⟨by unfold isA; decide, by decide⟩ (by show _ < 3; omega) dX9_ownShare_29 ?_
        rw [tx.2.1]
        refine V_icmp_ge (pc := 30) X 63 dX9_ownShare_30 (by decide) (fun c30 => ?_) (fun c30 => ?_)
        · have hie : ¬ k < (eX (zE s e)).length := fun y => nI_ge y (by omega) c30
          rw [List.take_of_length_le (by omega)] at hc
          refine V_aload_n (pc := 63) X 2 dX9_ownShare_63 rfl ?_
          refine V_get (pc := 64) X fl_X9_34 dX9_ownShare_64 mp2.k (mp2.f 909) ?_
          refine V_iload_n (pc := 67) X 3 dX9_ownShare_67 rfl ?_
          refine M_ald (pc := 68) X mp2 ⟨by unfold isA; decide, by decide⟩ (by show _ < 3; omega) dX9_ownShare_68 ?_
          rw [tx.2.1]
          refine V_if_ne (pc := 69) X 81 dX9_ownShare_69 (by decide) (fun c69 => ?_) (fun c69 => ?_)
          · have k69 : (eX (zE s e)).length ≠ 0 := fun y => c69 (by rw [y]; rfl)
            have hcl := cow_le (zT s) e (eX (zE s e))
            refine V_iload_n (pc := 81) X 1 dX9_ownShare_81 rfl ?_
            refine V_i2f (pc := 82) X dX9_ownShare_82 ?_
            refine V_aload_n (pc := 83) X 2 dX9_ownShare_83 rfl ?_
            refine V_get (pc := 84) X fl_X9_34 dX9_ownShare_84 mp2.k (mp2.f 909) ?_
            refine V_iload_n (pc := 87) X 3 dX9_ownShare_87 rfl ?_
            refine M_ald (pc := 88) X mp2 ⟨by unfold isA; decide, by decide⟩ (by show _ < 3; omega) dX9_ownShare_88 ?_
            rw [tx.2.1]
            refine V_i2f (pc := 89) X dX9_ownShare_89 ?_
            refine V_fdiv (pc := 90) X dX9_ownShare_90 (nn32 (by omega) (by omega) k69) ?_
            refine V_fret (pc := 91) X Q rfl dX9_ownShare_91 ?_
            first
            | exact Or.inl ⟨e, he, rfl, k69, by rw [hc], _, mp2, gm2, rm2, fu_s⟩
            | exact Or.inr (Or.inr ⟨e, he, rfl, k69, ⟨_, rfl⟩, _, mp9, gm2.seq fm9, rm2.th w hH (nI 2), fu_s⟩)
          · have k69 : (eX (zE s e)).length = 0 := (nI_eq (b := 0) (by omega) (by decide)).mp c69
            refine V_aload_n (pc := 72) X 2 dX9_ownShare_72 rfl ?_
            refine V_iconst (pc := 73) (v := 2) X dX9_ownShare_73 (by decide) ?_
            show V _ _ _ _ _ _ (Value.int (nI 2) :: _)
            refine V_callV (pc := 74) X clk9 (by decide) mp2.k _ (m_fails mp2 (c := nI 2)) cw_X9_144 (Q.room (by decide) (by decide)) rfl (Nat.le_of_ble_eq_true rfl) rfl (by omega) dX9_ownShare_74 (fun _ _ z => z.elim) ?_
            rintro v74 h74 ⟨rfl, mp9, fm9⟩
            simp only [Option.toList_some, List.cons_append, List.nil_append]
            refine V_i2f (pc := 77) X dX9_ownShare_77 ?_
            refine V_goto (pc := 78) X 91 dX9_ownShare_78 (by decide) ?_
            refine V_fret (pc := 91) X Q rfl dX9_ownShare_91 ?_
            first
            | exact Or.inl ⟨e, he, rfl, k69, by rw [hc], _, mp2, gm2, rm2, fu_s⟩
            | exact Or.inr (Or.inr ⟨e, he, rfl, k69, ⟨_, rfl⟩, _, mp9, gm2.seq fm9, rm2.th w hH (nI 2), fu_s⟩)
        · have hlt : k < (eX (zE s e)).length := by
            rcases Nat.lt_or_ge k (eX (zE s e)).length with y | y
            · exact y
            · exact absurd (nI_le y (by omega)) c30
          obtain ⟨a, ha⟩ : ∃ a, (eX (zE s e))[k]? = some a := ⟨_, List.getElem?_eq_getElem hlt⟩
          have ca := (hT a ((w.1 e he).1.1.2 a (List.mem_of_getElem? ha))).2
          have eta : cow (zT s) e ((eX (zE s e)).take (k + 1)) = cow (zT s) e ((eX (zE s e)).take k) + if (zT s a).2 = e then 1 else 0 := by rw [List.take_add_one, ha]; exact cow_app _ _ _ _
          refine V_iload_n (pc := 33) X 1 dX9_ownShare_33 rfl ?_
          refine V_aload_n (pc := 34) X 2 dX9_ownShare_34 rfl ?_
          refine V_get (pc := 35) X fl_X9_31 dX9_ownShare_35 mp2.k (mp2.f 908) ?_
          refine V_sipush (pc := 38) (v := 201) X dX9_ownShare_38 (by decide) ?_
          show V _ _ _ _ _ _ (Value.int (nI 201) :: _)
          refine V_iload_n (pc := 41) X 3 dX9_ownShare_41 rfl ?_
          refine V_imul (pc := 42) X dX9_ownShare_42 ?_
          rw [pk_mul]
          refine V_iload_n (pc := 43) X 0 dX9_ownShare_43 rfl ?_
          refine V_iadd (pc := 44) X dX9_ownShare_44 ?_
          rw [nI_add]
          refine M_ald (pc := 45) X mp2 ⟨by unfold isA; decide, by decide⟩ (by show _ < 603; omega) dX9_ownShare_45 ?_
          rw [(tx.2.2 k a ha).2.2]
          refine V_iload_n (pc := 46) X 3 dX9_ownShare_46 rfl ?_
          refine V_icmp_ne (pc := 47) X 54 dX9_ownShare_47 (by decide) (fun c47 => ?_) (fun c47 => ?_)
          · have k47 : ¬ (zT s a).2 = e := fun y => c47 (by rw [y])
            rw [if_neg k47] at eta
            refine V_iconst (pc := 54) (v := 0) X dX9_ownShare_54 (by decide) ?_
            show V _ _ _ _ _ _ (Value.int (nI 0) :: _)
            refine V_iadd (pc := 55) X dX9_ownShare_55 ?_
            rw [nI_add]
            refine V_istore_n (pc := 56) X [(2, .int _), (3, .int _), (0, .ref _), (1, .int _)] dX9_ownShare_56 rfl (by decide) rfl ?_
            refine V_inc1 (pc := 57) X 1 [(3, .int _), (2, .int _), (0, .ref _), (1, .int _)] dX9_ownShare_57 rfl (by decide) rfl ?_
            rw [nI_1]
            refine V_goto (pc := 60) X 23 dX9_ownShare_60 (by decide) ?_
            refine V.sub [0, 1, 2, 3] rfl ?_
            exact ih (k + 1) (by omega) (by omega) _ (by rw [eta, hc])
          · have k47 : (zT s a).2 = e := (nI_eq (by omega) (by omega)).mp c47
            rw [if_pos k47] at eta
            refine V_iconst (pc := 50) (v := 1) X dX9_ownShare_50 (by decide) ?_
            show V _ _ _ _ _ _ (Value.int (nI 1) :: _)
            refine V_goto (pc := 51) X 55 dX9_ownShare_51 (by decide) ?_
            refine V_iadd (pc := 55) X dX9_ownShare_55 ?_
            rw [nI_add]
            refine V_istore_n (pc := 56) X [(2, .int _), (3, .int _), (0, .ref _), (1, .int _)] dX9_ownShare_56 rfl (by decide) rfl ?_
            refine V_inc1 (pc := 57) X 1 [(3, .int _), (2, .int _), (0, .ref _), (1, .int _)] dX9_ownShare_57 rfl (by decide) rfl ?_
            rw [nI_1]
            refine V_goto (pc := 60) X 23 dX9_ownShare_60 (by decide) ?_
            refine V.sub [0, 1, 2, 3] rfl ?_
            exact ih (k + 1) (by omega) (by omega) _ (by rw [eta, hc])
    exact key ((eX (zE s e)).length + 1) 0 (by omega) (Nat.zero_le _) 0 rfl
  · have ke : ¬ (x = 0 ∨ x = 1) := fun y => by rw [if_pos (end_iff.mpr y)] at c9; exact absurd c9 (by decide)
    refine V_aload_n (pc := 12) X 0 dX9_ownShare_12 rfl ?_
    refine V_iconst (pc := 13) (v := 1) X dX9_ownShare_13 (by decide) ?_
    show V _ _ _ _ _ _ (Value.int (nI 1) :: _)
    refine V_callV (pc := 14) X clk9 (by decide) mp2.k _ (m_fails mp2 (c := nI 1)) cw_X9_144 (Q.room (by decide) (by decide)) rfl (Nat.le_of_ble_eq_true rfl) rfl (by omega) dX9_ownShare_14 (fun _ _ z => z.elim) ?_
    rintro v23 h23 ⟨rfl, mp9, fm9⟩
    simp only [Option.toList_some, List.cons_append, List.nil_append]
    refine V_i2f (pc := 17) X dX9_ownShare_17 ?_
    refine V_fret (pc := 18) X Q rfl dX9_ownShare_18 ?_
    exact Or.inr (Or.inl ⟨ke, ⟨_, rfl⟩, _, mp9, gm2.seq fm9, rm2.th w hH (nI 1), fu_s⟩)
theorem y_meanRun {E : EV} {h : AH} {q : Nat} {A : Nat → Nat} {F : MS'} {s : SQ} (mp : MP h q A F) (rm : RM (zT s) F s) (w : WS' s) (hH : (hop (zH s)).length ≤ 200)  : Ct E yX9_meanRun cX9_meanRun 1 (some .double) 3 0 [.ref q] h (fun v h1 => ((zH s).length ≠ 0 ∧ v = some (.double (FP.ddiv (FP.i2d (nI ((zH s).map (fun x => x.2.2.length)).sum)) (FP.i2d (nI (zH s).length)))) ∧ MR h h1 q A s 0) ∨ ((zH s).length = 0 ∧ (∃ u : UInt64, v = some (.double u)) ∧ MR h h1 q A s 1)) noX := by
  refine Ct_of RX9 (by decide +kernel) rfl (Nat.le_of_ble_eq_true rfl) (fun Γ X nt Q hin => ?_)
  have gm := FM.refl h
  refine V_aload_n (pc := 0) X 0 dX9_meanRun_0 rfl ?_
  refine V_iconst (pc := 1) (v := 0) X dX9_meanRun_1 (by decide) ?_
  show V _ _ _ _ _ _ (Value.int (nI 0) :: _)
  refine M_put (pc := 2) X mp (i := 900) (by unfold isS; decide) fl_X9_92 dX9_meanRun_2 (fun h2 mp2 fm2 => ?_)
  have gm2 := gm.seq fm2
  have rm2 := rm.th w hH (nI 0)
  refine V_aload_n (pc := 5) X 0 dX9_meanRun_5 rfl ?_
  refine V_get (pc := 6) X fl_X9_169 dX9_meanRun_6 mp2.k (mp2.s 927) ?_
  rw [rm2.2.2.1.1]
  have hHl := w.2.2.1.1
  have hln := hop_len (zH s)
  refine V_if_ne (pc := 9) X 21 dX9_meanRun_9 (by decide) (fun c9 => ?_) (fun c9 => ?_)
  · have k9 : (zH s).length ≠ 0 := fun y => c9 (by rw [y]; rfl)
    refine V_aload_n (pc := 21) X 0 dX9_meanRun_21 rfl ?_
    refine V_get (pc := 22) X fl_X9_163 dX9_meanRun_22 mp2.k (mp2.s 928) ?_
    rw [rm2.2.2.1.2.1, hln]
    refine V_i2d (pc := 25) X dX9_meanRun_25 ?_
    refine V_aload_n (pc := 26) X 0 dX9_meanRun_26 rfl ?_
    refine V_get (pc := 27) X fl_X9_169 dX9_meanRun_27 mp2.k (mp2.s 927) ?_
    rw [rm2.2.2.1.1]
    refine V_i2d (pc := 30) X dX9_meanRun_30 ?_
    refine V_ddiv (pc := 31) X dX9_meanRun_31 (nn64 (by omega) (by omega) k9) ?_
    refine V_dret (pc := 32) X Q rfl dX9_meanRun_32 ?_
    first
    | exact Or.inl ⟨k9, rfl, _, mp2, gm2, rm2, fu_s⟩
    | exact Or.inr ⟨k9, ⟨_, rfl⟩, _, mp9, gm2.seq fm9, rm2.th w hH (nI 1), fu_s⟩
  · have k9 : (zH s).length = 0 := (nI_eq (b := 0) (by omega) (by decide)).mp c9
    refine V_aload_n (pc := 12) X 0 dX9_meanRun_12 rfl ?_
    refine V_iconst (pc := 13) (v := 1) X dX9_meanRun_13 (by decide) ?_
    show V _ _ _ _ _ _ (Value.int (nI 1) :: _)
    refine V_callV (pc := 14) X clk9 (by decide) mp2.k _ (m_fails mp2 (c := nI 1)) cw_X9_144 (Q.room (by decide) (by decide)) rfl (Nat.le_of_ble_eq_true rfl) rfl (by omega) dX9_meanRun_14 (fun _ _ z => z.elim) ?_
    rintro v23 h23 ⟨rfl, mp9, fm9⟩
    simp only [Option.toList_some, List.cons_append, List.nil_append]
    refine V_i2d (pc := 17) X dX9_meanRun_17 ?_
    refine V_goto (pc := 18) X 32 dX9_meanRun_18 (by decide) ?_
    refine V_dret (pc := 32) X Q rfl dX9_meanRun_32 ?_
    first
    | exact Or.inl ⟨k9, rfl, _, mp2, gm2, rm2, fu_s⟩
    | exact Or.inr ⟨k9, ⟨_, rfl⟩, _, mp9, gm2.seq fm9, rm2.th w hH (nI 1), fu_s⟩
