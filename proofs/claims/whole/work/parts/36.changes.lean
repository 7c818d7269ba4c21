/-! CHANGES -/
/-- the object with its two rows -/
def CG (h : AH) (q rw fa : Nat) : Prop := qK h q = 2 ∧ qF h 100 q = .ref rw ∧ qF h 101 q = .ref fa ∧ qK h rw = 13 ∧ qK h fa = 13 ∧ (qI h rw).length = 201 ∧ (qI h fa).length = 803 ∧ rw ≠ fa
theorem CG.sI1 {h : AH} {q rw fa : Nat} (z : CG h q rw fa) {xs : List Int32} (hx : xs.length = 201) : CG (sI h rw xs) q rw fa := ⟨z.1, z.2.1, z.2.2.1, z.2.2.2.1, z.2.2.2.2.1, by rw [qI_sI, if_pos rfl]; exact hx, by rw [qI_sI, if_neg (fun y => z.2.2.2.2.2.2.2 y.symm)]; exact z.2.2.2.2.2.2.1, z.2.2.2.2.2.2.2⟩
theorem CG.sI2 {h : AH} {q rw fa : Nat} (z : CG h q rw fa) {xs : List Int32} (hx : xs.length = 803) : CG (sI h fa xs) q rw fa := ⟨z.1, z.2.1, z.2.2.1, z.2.2.2.1, z.2.2.2.2.1, by rw [qI_sI, if_neg z.2.2.2.2.2.2.2]; exact z.2.2.2.2.2.1, by rw [qI_sI, if_pos rfl]; exact hx, z.2.2.2.2.2.2.2⟩
theorem TX.sI {la : Nat → Nat} {h : AH} {t tl c a : Nat} {xs : List Nat} {v : List Int32} (z : TX la h t tl xs c) : TX la (sI h a v) t tl xs c := z
theorem LT.sI {la : Nat → Nat} {tb : Nat → Nat × Nat} {h : AH} {x a : Nat} {v : List Int32} (z : LT la tb h x) : LT la tb (sI h a v) x := z
theorem sI_sI (h : AH) (a : Nat) (x y : List Int32) : sI (sI h a x) a y = sI h a y := by
  show (h.1, h.2.1, h.2.2.1, h.2.2.2.1, fun b => if b = a then y else if b = a then x else h.2.2.2.2 b) = (h.1, h.2.1, h.2.2.1, h.2.2.2.1, fun b => if b = a then y else h.2.2.2.2 b)
  have : (fun b => if b = a then y else if b = a then x else h.2.2.2.2 b) = (fun b => if b = a then y else h.2.2.2.2 b) := by
    funext b
    by_cases e : b = a
    · rw [if_pos e, if_pos e]
    · rw [if_neg e, if_neg e, if_neg e]
  rw [this]
theorem sI_id (h : AH) (a : Nat) : sI h a (qI h a) = h := by
  obtain ⟨h1, h2, h3, h4, h5⟩ := h
  show (h1, h2, h3, h4, fun b => if b = a then h5 a else h5 b) = (h1, h2, h3, h4, h5)
  have : (fun b => if b = a then h5 a else h5 b) = h5 := by
    funext b
    by_cases e : b = a
    · rw [if_pos e, e]
    · rw [if_neg e]
  rw [this]
theorem gDs {l : List Int32} {i j : Nat} {v : Int32} (hi : i < l.length) : (l.set i v).getD j 0 = if j = i then v else l.getD j 0 := by
  rw [List.getD_eq_getElem?_getD, List.getD_eq_getElem?_getD, List.getElem?_set]
  by_cases e : i = j
  · subst e; rw [if_pos rfl, if_pos rfl, if_pos hi]; rfl
  · rw [if_neg e, if_neg (fun z => e z.symm)]
theorem c_fillRow {E : EV} {la : Nat → Nat} {tb : Nat → Nat × Nat} {h : AH} {q rw fa t tl c u ul d : Nat} {xs ys : List Nat} (z : CG h q rw fa) (hx : TX la h t tl xs c) (hy : TX la h u ul ys d) (hT : ∀ x ∈ xs, LT la tb h x) (hU : ∀ x ∈ ys, LT la tb h x) (hl : xs.length ≤ 200) (hm : ys.length ≤ 200) {i : Nat} (hi0 : 1 ≤ i) (hi : i ≤ xs.length) (hr : ∀ j, j ≤ ys.length → (qI h rw).getD j 0 = nI (dst (mt tb xs ys) (i - 1) j)) : Ct E yX1_fillRow cX1_fillRow 8 none 5 0 [.ref q, .ref t, .int (nI i), .ref u, .int (nI ys.length)] h (fun v h1 => v = none ∧ ∃ w : List Int32, h1 = sI h rw w ∧ w.length = 201 ∧ ∀ j, j ≤ ys.length → w.getD j 0 = nI (dst (mt tb xs ys) i j)) noX := by
  refine Ct_of RX1 (by decide +kernel) rfl (Nat.le_of_ble_eq_true rfl) (fun Γ X nt Q hin => ?_)
  obtain ⟨i, rfl⟩ : ∃ i0, i = i0 + 1 := ⟨i - 1, by omega⟩
  rw [Nat.add_sub_cancel] at hr
  have hl1 := z.2.2.2.2.2.1
  have hup := fun a b => dst_up (mt tb xs ys) a b
  refine V_aload_n (pc := 0) X 0 dX1_fillRow_0 rfl ?_
  refine V_get (pc := 1) X fl_X1_11 dX1_fillRow_1 z.1 z.2.1 ?_
  refine V_iconst (pc := 4) (v := 0) X dX1_fillRow_4 (by decide) ?_
  refine V_iald (pc := 5) X (Or.inl z.2.2.2.1) (vp_in_nI (n := 0) (by omega) (by omega)) (hr 0 (Nat.zero_le _)) dX1_fillRow_5 ?_
  refine V_istore (pc := 6) X [(5, .int _), (0, .ref _), (1, .ref _), (2, .int _), (3, .ref _), (4, .int _)] dX1_fillRow_6 (by decide) rfl ?_
  refine V_aload_n (pc := 8) X 1 dX1_fillRow_8 rfl ?_
  refine V_get (pc := 9) X fl_X1_11 dX1_fillRow_9 z.1 z.2.1 ?_
  refine V_iconst (pc := 12) (v := 0) X dX1_fillRow_12 (by decide) ?_
  refine V_iload_n (pc := 13) X 3 dX1_fillRow_13 rfl ?_
  refine V_iast (pc := 14) X (Or.inl z.2.2.2.1) (vp_in_nI (n := 0) (by omega) (by omega)) dX1_fillRow_14 ?_
  rw [show ((0 : Int32)).toNatClampNeg = 0 from rfl]
  refine V_iconst (pc := 15) (v := 1) X dX1_fillRow_15 (by decide) ?_
  refine V_istore (pc := 16) X [(6, .int _), (5, .int _), (0, .ref _), (1, .ref _), (2, .int _), (3, .ref _), (4, .int _)] dX1_fillRow_16 (by decide) rfl ?_
  have key : ∀ (n j : Nat), ys.length + 1 - j < n → 1 ≤ j → j ≤ ys.length + 1 → ∀ (w : List Int32), w.length = 201 → (∀ k, k ≤ ys.length → w.getD k 0 = nI (if k < j then dst (mt tb xs ys) (i + 1) k else dst (mt tb xs ys) i k)) → ∀ cr : Int32, cr = nI (dst (mt tb xs ys) i (j - 1)) → V E Γ 0 (sI h rw w) 18 [(6, .int (nI j)), (5, .int cr), (0, .ref q), (1, .ref t), (2, .int (nI (i + 1))), (3, .ref u), (4, .int (nI ys.length))] [] := by
    intro n
    induction n with
    | zero => exact fun j hn => absurd hn (Nat.not_lt_zero _)
    | succ n ih =>
      intro j hn hj1 hj w r1 r2 cr r3
      have z1 := z.sI1 r1
      have hqI : qI (sI h rw w) rw = w := by rw [qI_sI, if_pos rfl]
      refine V_iload (pc := 18) X 0 dX1_fillRow_18 rfl ?_
      refine V_iload (pc := 20) X 6 dX1_fillRow_20 rfl ?_
      refine V_icmp_gt (pc := 22) X 87 dX1_fillRow_22 (by decide) (fun c22 => ?_) (fun c22 => ?_)
      · have hie : ys.length < j := (nI_ltI (by omega) (by omega)).mp c22
        refine V_vret (pc := 87) X Q rfl dX1_fillRow_87 ?_
        refine ⟨rfl, w, rfl, r1, fun k hk => ?_⟩
        rw [r2 k hk, if_pos (by omega)]
      · have hlt : j ≤ ys.length := by
          rcases Nat.lt_or_ge (ys.length) (j) with z | z
          · exact absurd (nI_lt z (by omega)) c22
          · exact z
        have hdi := hup i j
        have hd1 := hup (i + 1) (j - 1)
        obtain ⟨j, rfl⟩ : ∃ j0, j = j0 + 1 := ⟨j - 1, by omega⟩
        rw [Nat.add_sub_cancel] at r3 hd1
        have a1 := r2 (j + 1) hlt
        rw [if_neg (Nat.lt_irrefl _)] at a1
        have a2 := r2 j (by omega)
        rw [if_pos (by omega)] at a2
        have hin : vp_in (nI (j + 1)) (qI (sI h rw w) rw).length := vp_in_nI (by rw [hqI]; omega) (by rw [hqI]; omega)
        refine V_aload_n (pc := 25) X 2 dX1_fillRow_25 rfl ?_
        refine V_get (pc := 26) X fl_X1_11 dX1_fillRow_26 z1.1 z1.2.1 ?_
        refine V_iload (pc := 29) X 0 dX1_fillRow_29 rfl ?_
        refine V_iald (pc := 31) X (Or.inl z1.2.2.2.1) hin (show (qI (sI h rw w) rw).getD (nI (j + 1)).toNatClampNeg 0 = nI (dst (mt tb xs ys) i (j + 1)) from by rw [hqI, nI_clamp (by omega)]; exact a1) dX1_fillRow_31 ?_
        refine V_istore (pc := 32) X [(7, .int _), (6, .int _), (5, .int _), (0, .ref _), (1, .ref _), (2, .int _), (3, .ref _), (4, .int _)] dX1_fillRow_32 (by decide) rfl ?_
        refine V_aload_n (pc := 34) X 3 dX1_fillRow_34 rfl ?_
        refine V_get (pc := 35) X fl_X1_11 dX1_fillRow_35 z1.1 z1.2.1 ?_
        refine V_iload (pc := 38) X 1 dX1_fillRow_38 rfl ?_
        refine V_aload_n (pc := 40) X 4 dX1_fillRow_40 rfl ?_
        refine V_iload_n (pc := 41) X 5 dX1_fillRow_41 rfl ?_
        refine V_iconst (pc := 42) (v := 1) X dX1_fillRow_42 (by decide) ?_
        refine V_isub (pc := 43) X dX1_fillRow_43 ?_
        rw [nI_pred]
        refine V_aload_n (pc := 44) X 6 dX1_fillRow_44 rfl ?_
        refine V_iload (pc := 45) X 1 dX1_fillRow_45 rfl ?_
        refine V_iconst (pc := 47) (v := 1) X dX1_fillRow_47 (by decide) ?_
        refine V_isub (pc := 48) X dX1_fillRow_48 ?_
        rw [nI_pred]
        refine V_callV (pc := 49) X clk7 (by decide) hx.1 _ (c_matches (tb := tb) (TX.sI hx) (TX.sI hy) (fun x hx => LT.sI (hT x hx)) (fun x hx => LT.sI (hU x hx)) (by omega) (by omega) (p := i) (q := j) (by omega) (by omega)) cw_X1_34 (Q.room (by decide) (by decide)) rfl (Nat.le_of_ble_eq_true rfl) rfl (by omega) dX1_fillRow_49 (fun _ _ z => z.elim) ?_
        rintro v49 h49 ⟨rfl, e49⟩
        rw [e49]
        simp only [Option.toList_some, List.cons_append, List.nil_append]
        refine V_if_eq (pc := 52) X 60 dX1_fillRow_52 (by decide) (fun c52 => ?_) (fun c52 => ?_)
        · have hmt : mt tb xs ys i j = false := by
            cases hh : mt tb xs ys i j with
            | false => rfl
            | true => rw [hh] at c52; exact absurd c52 (by decide)
          have hds := dst_f hmt
          refine V_iload (pc := 60) X 0 dX1_fillRow_60 rfl ?_
          refine V_aload_n (pc := 62) X 3 dX1_fillRow_62 rfl ?_
          refine V_get (pc := 63) X fl_X1_11 dX1_fillRow_63 z1.1 z1.2.1 ?_
          refine V_iload (pc := 66) X 1 dX1_fillRow_66 rfl ?_
          refine V_iconst (pc := 68) (v := 1) X dX1_fillRow_68 (by decide) ?_
          refine V_isub (pc := 69) X dX1_fillRow_69 ?_
          rw [nI_pred]
          refine V_iald (pc := 70) X (Or.inl z1.2.2.2.1) (vp_in_nI (by rw [hqI]; omega) (by rw [hqI]; omega)) (show (qI (sI h rw w) rw).getD (nI j).toNatClampNeg 0 = nI (dst (mt tb xs ys) (i + 1) j) from by rw [hqI, nI_clamp (by omega)]; exact a2) dX1_fillRow_70 ?_
          refine V_mmin (pc := 71) X mm_X1_24 ⟨Q.fr (by decide), Q.lo (by decide)⟩ (Nat.le_of_ble_eq_true rfl) dX1_fillRow_71 ?_
          rw [show (if nI (dst (mt tb xs ys) (i + 1) j) < nI (dst (mt tb xs ys) i (j + 1)) then nI (dst (mt tb xs ys) (i + 1) j) else nI (dst (mt tb xs ys) i (j + 1))) = nI (min (dst (mt tb xs ys) i (j + 1)) (dst (mt tb xs ys) (i + 1) j)) by
            by_cases y : dst (mt tb xs ys) (i + 1) j < dst (mt tb xs ys) i (j + 1)
            · rw [if_pos (nI_lt y (by omega)), Nat.min_eq_right (by omega)]
            · rw [if_neg (fun w => y ((nI_ltI (by omega) (by omega)).mp w)), Nat.min_eq_left (by omega)]]
          refine V_iconst (pc := 74) (v := 1) X dX1_fillRow_74 (by decide) ?_
          refine V_iadd (pc := 75) X dX1_fillRow_75 ?_
          rw [nI_1, ← hds]
          refine V_iast (pc := 76) X (Or.inl z1.2.2.2.1) hin dX1_fillRow_76 ?_
          rw [hqI, nI_clamp (by omega), sI_sI]
          refine V_iload (pc := 77) X 0 dX1_fillRow_77 rfl ?_
          refine V_istore (pc := 79) X [(5, .int _), (7, .int _), (6, .int _), (0, .ref _), (1, .ref _), (2, .int _), (3, .ref _), (4, .int _)] dX1_fillRow_79 (by decide) rfl ?_
          refine V_inc1 (pc := 81) X 2 [(6, .int _), (5, .int _), (7, .int _), (0, .ref _), (1, .ref _), (2, .int _), (3, .ref _), (4, .int _)] dX1_fillRow_81 rfl (by decide) rfl ?_
          rw [nI_1]
          refine V_goto (pc := 84) X 18 dX1_fillRow_84 (by decide) ?_
          refine V.sub [0, 1, 3, 4, 5, 6, 7] rfl ?_
          refine ih (j + 1 + 1) (by omega) (by omega) (by omega) _ (by rw [List.length_set]; exact r1) (fun k hk => ?_) _ rfl
          rw [gDs (by omega)]
          by_cases e : k = j + 1
          · rw [if_pos e, if_pos (by omega), e]
          · rw [if_neg e, r2 k hk]
            by_cases y : k < j + 1
            · rw [if_pos y, if_pos (by omega)]
            · rw [if_neg y, if_neg (by omega)]
        · have hmt : mt tb xs ys i j = true := by
            cases hh : mt tb xs ys i j with
            | true => rfl
            | false => rw [hh] at c52; exact absurd rfl c52
          have hds := dst_t hmt
          refine V_iload (pc := 55) X 2 dX1_fillRow_55 rfl ?_
          refine V_goto (pc := 57) X 76 dX1_fillRow_57 (by decide) ?_
          rw [r3, ← hds]
          refine V_iast (pc := 76) X (Or.inl z1.2.2.2.1) hin dX1_fillRow_76 ?_
          rw [hqI, nI_clamp (by omega), sI_sI]
          refine V_iload (pc := 77) X 0 dX1_fillRow_77 rfl ?_
          refine V_istore (pc := 79) X [(5, .int _), (7, .int _), (6, .int _), (0, .ref _), (1, .ref _), (2, .int _), (3, .ref _), (4, .int _)] dX1_fillRow_79 (by decide) rfl ?_
          refine V_inc1 (pc := 81) X 2 [(6, .int _), (5, .int _), (7, .int _), (0, .ref _), (1, .ref _), (2, .int _), (3, .ref _), (4, .int _)] dX1_fillRow_81 rfl (by decide) rfl ?_
          rw [nI_1]
          refine V_goto (pc := 84) X 18 dX1_fillRow_84 (by decide) ?_
          refine V.sub [0, 1, 3, 4, 5, 6, 7] rfl ?_
          refine ih (j + 1 + 1) (by omega) (by omega) (by omega) _ (by rw [List.length_set]; exact r1) (fun k hk => ?_) _ rfl
          rw [gDs (by omega)]
          by_cases e : k = j + 1
          · rw [if_pos e, if_pos (by omega), e]
          · rw [if_neg e, r2 k hk]
            by_cases y : k < j + 1
            · rw [if_pos y, if_pos (by omega)]
            · rw [if_neg y, if_neg (by omega)]
  refine key (ys.length + 1) 1 (by omega) (Nat.le_refl _) (by omega) _ (by rw [List.length_set]; exact hl1) (fun k hk => ?_) _ rfl
  rw [gDs (by omega)]
  by_cases e : k = 0
  · subst e; rw [if_pos rfl, if_pos (by decide), dst_l]
  · rw [if_neg e, if_neg (by omega)]; exact hr k hk
theorem c_byTable {E : EV} {la : Nat → Nat} {tb : Nat → Nat × Nat} {h : AH} {q rw fa t tl c u ul d : Nat} {xs ys : List Nat} (z : CG h q rw fa) (hx : TX la h t tl xs c) (hy : TX la h u ul ys d) (hT : ∀ x ∈ xs, LT la tb h x) (hU : ∀ x ∈ ys, LT la tb h x) (hl : xs.length ≤ 200) (hm : ys.length ≤ 200) : Ct E yX1_byTable cX1_byTable 5 (some .int) 6 0 [.ref q, .ref t, .ref u] h (fun v h1 => v = some (.int (nI (dst (mt tb xs ys) xs.length ys.length))) ∧ ∃ w : List Int32, h1 = sI h rw w ∧ w.length = 201) noX := by
  refine Ct_of RX1 (by decide +kernel) rfl (Nat.le_of_ble_eq_true rfl) (fun Γ X nt Q hin => ?_)
  refine V_aload_n (pc := 0) X 2 dX1_byTable_0 rfl ?_
  have hl1 := z.2.2.2.2.2.1
  refine V_callV (pc := 1) X clk7 (by decide) hy.1 _ (c_tsize hy) cw_X1_18 (Q.room (by decide) (by decide)) rfl (Nat.le_of_ble_eq_true rfl) rfl (by omega) dX1_byTable_1 (fun _ _ z => z.elim) ?_
  rintro v1 h1 ⟨rfl, e1⟩
  rw [e1]
  simp only [Option.toList_some, List.cons_append, List.nil_append]
  refine V_sipush (pc := 4) (v := 200) X dX1_byTable_4 (by decide) ?_
  refine V_mmin (pc := 7) X mm_X1_24 ⟨Q.fr (by decide), Q.lo (by decide)⟩ (Nat.le_of_ble_eq_true rfl) dX1_byTable_7 ?_
  rw [if_neg (fun w : (200 : Int32) < nI ys.length => absurd ((nI_ltI (a := 200) (by decide) (by omega)).mp w) (by omega))]
  refine V_istore_n (pc := 10) X [(3, .int _), (0, .ref _), (1, .ref _), (2, .ref _)] dX1_byTable_10 rfl (by decide) rfl ?_
  refine V_iconst (pc := 11) (v := 0) X dX1_byTable_11 (by decide) ?_
  refine V_istore (pc := 12) X [(4, .int _), (3, .int _), (0, .ref _), (1, .ref _), (2, .ref _)] dX1_byTable_12 (by decide) rfl ?_
  have key : ∀ (n j : Nat), ys.length + 1 - j < n → j ≤ ys.length + 1 → ∀ (w : List Int32), w.length = 201 → (∀ k, k < j → w.getD k 0 = nI k) → V E Γ 0 (sI h rw w) 14 [(4, .int (nI j)), (3, .int (nI ys.length)), (0, .ref q), (1, .ref t), (2, .ref u)] [] := by
    intro n
    induction n with
    | zero => exact fun j hn => absurd hn (Nat.not_lt_zero _)
    | succ n ih =>
      intro j hn hj w r1 r2
      have z1 := z.sI1 r1
      have hqI : qI (sI h rw w) rw = w := by rw [qI_sI, if_pos rfl]
      refine V_iload (pc := 14) X 0 dX1_byTable_14 rfl ?_
      refine V_iload_n (pc := 16) X 1 dX1_byTable_16 rfl ?_
      refine V_icmp_gt (pc := 17) X 35 dX1_byTable_17 (by decide) (fun c17 => ?_) (fun c17 => ?_)
      · have hie : ys.length < j := (nI_ltI (by omega) (by omega)).mp c17
        refine V_iconst (pc := 35) (v := 1) X dX1_byTable_35 (by decide) ?_
        refine V_istore (pc := 36) X [(4, .int _), (3, .int _), (0, .ref _), (1, .ref _), (2, .ref _)] dX1_byTable_36 (by decide) rfl ?_
        have key2 : ∀ (n i : Nat), xs.length + 1 - i < n → 1 ≤ i → i ≤ xs.length + 1 → ∀ (w : List Int32), w.length = 201 → (∀ k, k ≤ ys.length → w.getD k 0 = nI (dst (mt tb xs ys) (i - 1) k)) → V E Γ 0 (sI h rw w) 38 [(4, .int (nI i)), (3, .int (nI ys.length)), (0, .ref q), (1, .ref t), (2, .ref u)] [] := by
          intro n
          induction n with
          | zero => exact fun i hn => absurd hn (Nat.not_lt_zero _)
          | succ n ih =>
            intro i hn hi1 hi w r1 r2
            have z1 := z.sI1 r1
            have hqI : qI (sI h rw w) rw = w := by rw [qI_sI, if_pos rfl]
            refine V_iload (pc := 38) X 0 dX1_byTable_38 rfl ?_
            refine V_aload_n (pc := 40) X 3 dX1_byTable_40 rfl ?_
            refine V_callV (pc := 41) X clk7 (by decide) (TX.sI hx).1 _ (c_tsize (TX.sI hx)) cw_X1_18 (Q.room (by decide) (by decide)) rfl (Nat.le_of_ble_eq_true rfl) rfl (by omega) dX1_byTable_41 (fun _ _ z => z.elim) ?_
            rintro v41 h41 ⟨rfl, e41⟩
            rw [e41]
            simp only [Option.toList_some, List.cons_append, List.nil_append]
            refine V_icmp_gt (pc := 44) X 62 dX1_byTable_44 (by decide) (fun c44 => ?_) (fun c44 => ?_)
            · have hie : xs.length < i := (nI_ltI (by omega) (by omega)).mp c44
              refine V_aload_n (pc := 62) X 2 dX1_byTable_62 rfl ?_
              refine V_get (pc := 63) X fl_X1_11 dX1_byTable_63 z1.1 z1.2.1 ?_
              refine V_iload_n (pc := 66) X 1 dX1_byTable_66 rfl ?_
              refine V_iald (pc := 67) X (Or.inl z1.2.2.2.1) (vp_in_nI (by rw [hqI]; omega) (by rw [hqI]; omega)) (show (qI (sI h rw w) rw).getD (nI ys.length).toNatClampNeg 0 = nI (dst (mt tb xs ys) (i - 1) ys.length) from by rw [hqI, nI_clamp (by omega)]; exact r2 _ (Nat.le_refl _)) dX1_byTable_67 ?_
              refine V_iret (pc := 68) X Q rfl rfl dX1_byTable_68 ?_
              have ei : i - 1 = xs.length := by omega
              rw [ei]
              exact ⟨rfl, w, rfl, r1⟩
            · have hlt : i ≤ xs.length := by
                rcases Nat.lt_or_ge (xs.length) (i) with z | z
                · exact absurd (nI_lt z (by omega)) c44
                · exact z
              refine V_aload_n (pc := 47) X 2 dX1_byTable_47 rfl ?_
              refine V_aload_n (pc := 48) X 3 dX1_byTable_48 rfl ?_
              refine V_iload (pc := 49) X 0 dX1_byTable_49 rfl ?_
              refine V_aload_n (pc := 51) X 4 dX1_byTable_51 rfl ?_
              refine V_iload_n (pc := 52) X 1 dX1_byTable_52 rfl ?_
              refine V_callV (pc := 53) X clk1 (by decide) z1.1 _ (c_fillRow z1 (TX.sI hx) (TX.sI hy) (fun x hx => LT.sI (hT x hx)) (fun x hx => LT.sI (hU x hx)) hl hm hi1 hlt (by rw [hqI]; exact r2)) cw_X1_30 (Q.room (by decide) (by decide)) rfl (Nat.le_of_ble_eq_true rfl) rfl (by omega) dX1_byTable_53 (fun _ _ z => z.elim) ?_
              rintro v53 h53 ⟨rfl, w2, e53, p1, p2⟩
              rw [e53, sI_sI]
              simp only [Option.toList_none, List.nil_append]
              refine V_inc1 (pc := 56) X 0 [(4, .int _), (3, .int _), (0, .ref _), (1, .ref _), (2, .ref _)] dX1_byTable_56 rfl (by decide) rfl ?_
              rw [nI_1]
              refine V_goto (pc := 59) X 38 dX1_byTable_59 (by decide) ?_
              exact ih (i + 1) (by omega) (by omega) (by omega) _ p1 (by rw [Nat.add_sub_cancel]; exact p2)
        exact key2 (xs.length + 1) 1 (by omega) (Nat.le_refl _) (by omega) _ r1 (fun k hk => by rw [r2 k (by omega)]; rfl)
      · have hlt : j ≤ ys.length := by
          rcases Nat.lt_or_ge (ys.length) (j) with z | z
          · exact absurd (nI_lt z (by omega)) c17
          · exact z
        refine V_aload_n (pc := 20) X 2 dX1_byTable_20 rfl ?_
        refine V_get (pc := 21) X fl_X1_11 dX1_byTable_21 z1.1 z1.2.1 ?_
        refine V_iload (pc := 24) X 0 dX1_byTable_24 rfl ?_
        refine V_iload (pc := 26) X 0 dX1_byTable_26 rfl ?_
        refine V_iast (pc := 28) X (Or.inl z1.2.2.2.1) (vp_in_nI (by rw [hqI]; omega) (by rw [hqI]; omega)) dX1_byTable_28 ?_
        rw [hqI, nI_clamp (by omega), sI_sI]
        refine V_inc1 (pc := 29) X 0 [(4, .int _), (3, .int _), (0, .ref _), (1, .ref _), (2, .ref _)] dX1_byTable_29 rfl (by decide) rfl ?_
        rw [nI_1]
        refine V_goto (pc := 32) X 14 dX1_byTable_32 (by decide) ?_
        exact ih (j + 1) (by omega) (by omega) _ (by rw [List.length_set]; exact r1) (fun k hk => by
          rw [gDs (by omega)]
          by_cases e : k = j
          · rw [if_pos e, e]
          · rw [if_neg e]; exact r2 k (by omega))
  refine V.heap (h' := sI h rw (qI h rw)) (sI_id h rw).symm ?_
  exact key (ys.length + 2) 0 (by omega) (Nat.zero_le _) _ hl1 (fun k hk => absurd hk (Nat.not_lt_zero _))
theorem c_wfollow {E : EV} {la : Nat → Nat} {tb : Nat → Nat × Nat} {h : AH} {q rw fa t tl c u ul d : Nat} {xs ys : List Nat} (z : CG h q rw fa) (hx : TX la h t tl xs c) (hy : TX la h u ul ys d) (hT : ∀ x ∈ xs, LT la tb h x) (hU : ∀ x ∈ ys, LT la tb h x) (hl : xs.length ≤ 200) (hm : ys.length ≤ 200) {p x y : Nat} (hp : x + 401 = y + p) (hx2 : x < 2 ^ 20) (hy2 : y < 2 ^ 20) (hp2 : p < 2 ^ 20) : Ct E yX1_follow cX1_follow 6 (some .int) 5 0 [.ref q, .ref t, .ref u, .int (nZ p), .int (nI x)] h (fun v h1 => h1 = h ∧ ∃ k : Nat, v = some (.int (nI (x + k))) ∧ (∀ a, a < k → mt tb xs ys (x + a) (y + a) = true) ∧ mt tb xs ys (x + k) (y + k) = false ∧ (k = 0 ∨ x + k ≤ xs.length)) noX := by
  refine Ct_of RX1 (by decide +kernel) rfl (Nat.le_of_ble_eq_true rfl) (fun Γ X nt Q hin => ?_)
  refine V_iload (pc := 0) X 4 dX1_follow_0 rfl ?_
  refine V_istore (pc := 2) X [(5, .int _), (0, .ref _), (1, .ref _), (2, .ref _), (3, .int _), (4, .int _)] dX1_follow_2 (by decide) rfl ?_
  have key : ∀ (n k : Nat), xs.length + 1 - (x + k) < n → (∀ a, a < k → mt tb xs ys (x + a) (y + a) = true) → (k = 0 ∨ x + k ≤ xs.length) → V E Γ 0 h 4 [(5, .int (nI (x + k))), (0, .ref q), (1, .ref t), (2, .ref u), (3, .int (nZ p))] [] := by
    intro n
    induction n with
    | zero => exact fun k hn => absurd hn (Nat.not_lt_zero _)
    | succ n ih =>
      intro k hn r1 r2
      have hxk : x + k < 2 ^ 21 := by omega
      have hyk : y + k < 2 ^ 21 := by omega
      refine V_iload (pc := 4) X 0 dX1_follow_4 rfl ?_
      refine V_aload_n (pc := 6) X 2 dX1_follow_6 rfl ?_
      refine V_callV (pc := 7) X clk7 (by decide) hx.1 _ (c_tsize hx) cw_X1_18 (Q.room (by decide) (by decide)) rfl (Nat.le_of_ble_eq_true rfl) rfl (by omega) dX1_follow_7 (fun _ _ z => z.elim) ?_
      rintro v7 h7 ⟨rfl, e7⟩
      rw [e7]
      simp only [Option.toList_some, List.cons_append, List.nil_append]
      refine V_icmp_ge (pc := 10) X 33 dX1_follow_10 (by decide) (fun c10 => ?_) (fun c10 => ?_)
      · have hie : ¬ x + k < xs.length := fun w => nI_ge w (by omega) c10
        have hmf : mt tb xs ys (x + k) (y + k) = false := mt_l (by omega)
        refine V_iload (pc := 33) X 0 dX1_follow_33 rfl ?_
        refine V_iret (pc := 35) X Q rfl rfl dX1_follow_35 ?_
        exact ⟨rfl, k, rfl, r1, hmf, r2⟩
      · have hlt : x + k < xs.length := by
          rcases Nat.lt_or_ge (x + k) xs.length with w | w
          · exact w
          · exact absurd (nI_le w (by omega)) c10
        refine V_aload_n (pc := 13) X 2 dX1_follow_13 rfl ?_
        refine V_iload (pc := 14) X 0 dX1_follow_14 rfl ?_
        refine V_aload_n (pc := 16) X 3 dX1_follow_16 rfl ?_
        refine V_iload (pc := 17) X 0 dX1_follow_17 rfl ?_
        refine V_iload_n (pc := 19) X 4 dX1_follow_19 rfl ?_
        refine V_isub (pc := 20) X dX1_follow_20 ?_
        rw [nZ_sub (x := x + k) (p := p) (by omega) (by omega) (by omega), show x + k + 401 - p = y + k by omega]
        refine V_callV (pc := 21) X clk7 (by decide) hx.1 _ (c_matches (tb := tb) hx hy hT hU (by omega) (by omega) (p := x + k) (q := y + k) (by omega) (by omega)) cw_X1_34 (Q.room (by decide) (by decide)) rfl (Nat.le_of_ble_eq_true rfl) rfl (by omega) dX1_follow_21 (fun _ _ z => z.elim) ?_
        rintro v21 h21 ⟨rfl, e21⟩
        rw [e21]
        simp only [Option.toList_some, List.cons_append, List.nil_append]
        refine V_if_eq (pc := 24) X 33 dX1_follow_24 (by decide) (fun c24 => ?_) (fun c24 => ?_)
        · have hmf : mt tb xs ys (x + k) (y + k) = false := by
            cases hh : mt tb xs ys (x + k) (y + k) with
            | false => rfl
            | true => rw [hh] at c24; exact absurd c24 (by decide)
          refine V_iload (pc := 33) X 0 dX1_follow_33 rfl ?_
          refine V_iret (pc := 35) X Q rfl rfl dX1_follow_35 ?_
          exact ⟨rfl, k, rfl, r1, hmf, r2⟩
        · have hmt : mt tb xs ys (x + k) (y + k) = true := by
            cases hh : mt tb xs ys (x + k) (y + k) with
            | true => rfl
            | false => rw [hh] at c24; exact absurd rfl c24
          refine V_inc1 (pc := 27) X 0 [(5, .int _), (0, .ref _), (1, .ref _), (2, .ref _), (3, .int _)] dX1_follow_27 rfl (by decide) rfl ?_
          rw [nI_1]
          refine V_goto (pc := 30) X 4 dX1_follow_30 (by decide) ?_
          exact ih (k + 1) (by omega) (fun a ha => by
            rcases Nat.lt_or_ge a k with w | w
            · exact r1 a w
            · rw [show a = k by omega]; exact hmt) (Or.inr (by omega))
  refine V.sub [0, 1, 2, 3, 4] rfl ?_
  exact key (xs.length + 2) 0 (by omega) (fun a ha => absurd ha (Nat.not_lt_zero _)) (Or.inl rfl)
theorem c_firstOn {E : EV} {h : AH} {q rw fa : Nat} (z : CG h q rw fa) {p D : Nat} (hp : 1 ≤ p) (hp2 : p ≤ 801) {A B : Int32} (hA : (qI h fa).getD (p + 1) 0 = A) (hB : (qI h fa).getD (p - 1) 0 = B) : Ct E yX1_firstOn cX1_firstOn 5 (some .int) 1 0 [.ref q, .int (nZ p), .int (nI D)] h (fun v h1 => v = some (.int (if nZ p = - nI D then A else if nZ p = nI D ∨ ¬ B + 1 ≤ A then B + 1 else A)) ∧ h1 = h) noX := by
  refine Ct_of RX1 (by decide +kernel) rfl (Nat.le_of_ble_eq_true rfl) (fun Γ X nt Q hin => ?_)
  refine V_aload_n (pc := 0) X 0 dX1_firstOn_0 rfl ?_
  have hl2 := z.2.2.2.2.2.2.1
  refine V_get (pc := 1) X fl_X1_15 dX1_firstOn_1 z.1 z.2.2.1 ?_
  refine V_sipush (pc := 4) (v := 401) X dX1_firstOn_4 (by decide) ?_
  refine V_iload_n (pc := 7) X 1 dX1_firstOn_7 rfl ?_
  refine V_iadd (pc := 8) X dX1_firstOn_8 ?_
  rw [nZ_mid]
  refine V_iconst (pc := 9) (v := 1) X dX1_firstOn_9 (by decide) ?_
  refine V_iadd (pc := 10) X dX1_firstOn_10 ?_
  rw [nI_1]
  refine V_iald (pc := 11) X (Or.inl z.2.2.2.2.1) (vp_in_nI (by omega) (by omega)) (show (qI h fa).getD (nI (p + 1)).toNatClampNeg 0 = A from by rw [nI_clamp (by omega)]; exact hA) dX1_firstOn_11 ?_
  refine V_istore_n (pc := 12) X [(3, .int _), (0, .ref _), (1, .int _), (2, .int _)] dX1_firstOn_12 rfl (by decide) rfl ?_
  refine V_aload_n (pc := 13) X 1 dX1_firstOn_13 rfl ?_
  refine V_get (pc := 14) X fl_X1_15 dX1_firstOn_14 z.1 z.2.2.1 ?_
  refine V_sipush (pc := 17) (v := 401) X dX1_firstOn_17 (by decide) ?_
  refine V_iload_n (pc := 20) X 2 dX1_firstOn_20 rfl ?_
  refine V_iadd (pc := 21) X dX1_firstOn_21 ?_
  rw [nZ_mid]
  refine V_iconst (pc := 22) (v := 1) X dX1_firstOn_22 (by decide) ?_
  refine V_isub (pc := 23) X dX1_firstOn_23 ?_
  rw [nI_m1 (by omega)]
  refine V_iald (pc := 24) X (Or.inl z.2.2.2.2.1) (vp_in_nI (by omega) (by omega)) (show (qI h fa).getD (nI (p - 1)).toNatClampNeg 0 = B from by rw [nI_clamp (by omega)]; exact hB) dX1_firstOn_24 ?_
  refine V_iconst (pc := 25) (v := 1) X dX1_firstOn_25 (by decide) ?_
  refine V_iadd (pc := 26) X dX1_firstOn_26 ?_
  refine V_istore (pc := 27) X [(4, .int _), (3, .int _), (0, .ref _), (1, .int _), (2, .int _)] dX1_firstOn_27 (by decide) rfl ?_
  refine V_iload_n (pc := 29) X 3 dX1_firstOn_29 rfl ?_
  refine V_iload_n (pc := 30) X 4 dX1_firstOn_30 rfl ?_
  refine V_ineg (pc := 31) X dX1_firstOn_31 ?_
  refine V_icmp_ne (pc := 32) X 37 dX1_firstOn_32 (by decide) (fun c32 => ?_) (fun c32 => ?_)
  · refine V_iload_n (pc := 37) X 3 dX1_firstOn_37 rfl ?_
    refine V_iload_n (pc := 38) X 4 dX1_firstOn_38 rfl ?_
    refine V_icmp_eq (pc := 39) X 48 dX1_firstOn_39 (by decide) (fun c39 => ?_) (fun c39 => ?_)
    · refine V_iload (pc := 48) X 0 dX1_firstOn_48 rfl ?_
      refine V_goto (pc := 50) X 54 dX1_firstOn_50 (by decide) ?_
      refine V_iret (pc := 54) X Q rfl rfl dX1_firstOn_54 ?_
      refine ⟨?_, rfl⟩
      first
      | (rw [if_neg c32, if_pos (Or.inl c39)]; done)
      | (rw [if_neg c32, if_pos (Or.inr c45)]; done)
      | (rw [if_neg c32, if_neg (fun w => w.elim c39 (fun w => w c45))]; done)
    · refine V_iload (pc := 42) X 0 dX1_firstOn_42 rfl ?_
      refine V_iload_n (pc := 44) X 1 dX1_firstOn_44 rfl ?_
      refine V_icmp_le (pc := 45) X 53 dX1_firstOn_45 (by decide) (fun c45 => ?_) (fun c45 => ?_)
      · refine V_iload_n (pc := 53) X 1 dX1_firstOn_53 rfl ?_
        refine V_iret (pc := 54) X Q rfl rfl dX1_firstOn_54 ?_
        refine ⟨?_, rfl⟩
        first
        | (rw [if_neg c32, if_pos (Or.inl c39)]; done)
        | (rw [if_neg c32, if_pos (Or.inr c45)]; done)
        | (rw [if_neg c32, if_neg (fun w => w.elim c39 (fun w => w c45))]; done)
      · refine V_iload (pc := 48) X 0 dX1_firstOn_48 rfl ?_
        refine V_goto (pc := 50) X 54 dX1_firstOn_50 (by decide) ?_
        refine V_iret (pc := 54) X Q rfl rfl dX1_firstOn_54 ?_
        refine ⟨?_, rfl⟩
        first
        | (rw [if_neg c32, if_pos (Or.inl c39)]; done)
        | (rw [if_neg c32, if_pos (Or.inr c45)]; done)
        | (rw [if_neg c32, if_neg (fun w => w.elim c39 (fun w => w c45))]; done)
  · refine V_iload_n (pc := 35) X 1 dX1_firstOn_35 rfl ?_
    refine V_iret (pc := 36) X Q rfl rfl dX1_firstOn_36 ?_
    exact ⟨by rw [if_pos c32], rfl⟩
/-- the farthest places of one round, so far -/
def AR (f : Nat → Nat → Bool) (n m D : Nat) (w : List Int32) (k : Nat) : Prop := ∀ j, j < k → ∃ x y : Nat, w.getD (401 + 2 * j - D) 0 = nI x ∧ fgo f D x y ∧ x + D = y + 2 * j ∧ x ≤ 200 + D ∧ (x < n ∨ y < m)
def ARp (f : Nat → Nat → Bool) (n m D : Nat) (w : List Int32) : Prop := (D = 0 → w.getD 402 0 = nI 0) ∧ (0 < D → AR f n m (D - 1) w D)
theorem AR_end {f : Nat → Nat → Bool} {n m D : Nat} {w : List Int32} (h : AR f n m D w (D + 1)) (hD : D ≤ dst f n m) : D < dst f n m := by
  rcases Nat.lt_or_ge D (dst f n m) with z | z
  · exact z
  · have e : dst f n m = D := by omega
    have a := dst_par f n m
    have b := dst_gel f n m
    have c := dst_ger f m n
    obtain ⟨j, hj⟩ : ∃ j, n + D = m + 2 * j := ⟨(n + D - m) / 2, by omega⟩
    obtain ⟨x, y, h1, h2, h3, h4, h5⟩ := h j (by omega)
    have hx : x < n := by omega
    have := fgo_lt (a := n) (b := m) h2 hx (by omega)
    omega
/-- where a diagonal is entered -/
theorem AR_in {f : Nat → Nat → Bool} {n m D j : Nat} {w : List Int32} (hj : j ≤ D) (hD : D ≤ 400) (hp : ARp f n m D w) : ∃ x y : Nat, (if nZ (401 + 2 * j - D) = - nI D then w.getD (401 + 2 * j - D + 1) 0 else if nZ (401 + 2 * j - D) = nI D ∨ ¬ w.getD (401 + 2 * j - D - 1) 0 + 1 ≤ w.getD (401 + 2 * j - D + 1) 0 then w.getD (401 + 2 * j - D - 1) 0 + 1 else w.getD (401 + 2 * j - D + 1) 0) = nI x ∧ x + D = y + 2 * j ∧ x ≤ 200 + D ∧ ∀ t, (∀ u, u < t → f (x + u) (y + u) = true) → f (x + t) (y + t) = false → fgo f D (x + t) (y + t) := by
  rcases Nat.eq_zero_or_pos D with e | e
  · subst e
    have ej : j = 0 := by omega
    subst ej
    rw [if_pos (by decide)]
    exact ⟨0, 0, hp.1 rfl, rfl, by omega, fun t h1 h2 => fgo_0 h1 h2⟩
  · obtain ⟨D, rfl⟩ : ∃ D0, D = D0 + 1 := ⟨D - 1, by omega⟩
    have hA := hp.2 e
    rw [Nat.add_sub_cancel] at hA
    rw [nZ_neg (by omega)]
    by_cases e0 : j = 0
    · subst e0
      obtain ⟨x, y, h1, h2, h3, h4, h5⟩ := hA 0 (by omega)
      rw [if_pos (by rw [show 401 + 2 * 0 - (D + 1) = 401 - (D + 1) by omega]), show 401 + 2 * 0 - (D + 1) + 1 = 401 + 2 * 0 - D by omega]
      refine ⟨x, y + 1, h1, by omega, by omega, fun t g1 g2 => fgo_s ?_ ?_ ?_ g1 g2⟩
      · have := (dst_r f x y).1; have := h2.1; omega
      · have := dst_ger f (y + 1 + t + 1) (x + t); omega
      · exact fgo_lt h2 (by omega) (by omega)
    · rw [if_neg (fun z => by have := (nZ_inj (by omega) (by omega)).mp z; omega)]
      obtain ⟨x2, y2, b1, b2, b3, b4, b5⟩ := hA (j - 1) (by omega)
      rw [show 401 + 2 * (j - 1) - D = 401 + 2 * j - (D + 1) - 1 by omega] at b1
      rw [b1]
      by_cases e1 : j = D + 1
      · rw [if_pos (Or.inl (by rw [nZ_eq (by omega) (by omega)]; omega)), nI_1]
        refine ⟨x2 + 1, y2, rfl, by omega, by omega, fun t g1 g2 => fgo_s ?_ ?_ ?_ g1 g2⟩
        · have := (dst_d f x2 y2).1; have := b2.1; omega
        · exact fgo_lt b2 (by omega) (by omega)
        · have := dst_gel f (x2 + 1 + t + 1) (y2 + t); omega
      · obtain ⟨x1, y1, a1, a2, a3, a4, a5⟩ := hA j (by omega)
        rw [show 401 + 2 * j - D = 401 + 2 * j - (D + 1) + 1 by omega] at a1
        rw [a1, nI_1]
        by_cases e2 : x2 + 1 ≤ x1
        · rw [if_neg (fun z => z.elim (fun z => by rw [nZ_eq (by omega) (by omega)] at z; omega) (fun z => z (nI_le e2 (by omega))))]
          refine ⟨x1, y1 + 1, rfl, by omega, by omega, fun t g1 g2 => fgo_s ?_ ?_ ?_ g1 g2⟩
          · have := (dst_r f x1 y1).1; have := a2.1; omega
          · exact fgo_lt b2 (by omega) (by omega)
          · exact fgo_lt a2 (by omega) (by omega)
        · rw [if_pos (Or.inr (fun z => e2 ((nI_leI (by omega) (by omega)).mp z)))]
          refine ⟨x2 + 1, y2, rfl, by omega, by omega, fun t g1 g2 => fgo_s ?_ ?_ ?_ g1 g2⟩
          · have := (dst_d f x2 y2).1; have := b2.1; omega
          · exact fgo_lt b2 (by omega) (by omega)
          · exact fgo_lt a2 (by omega) (by omega)
theorem ARp.set {f : Nat → Nat → Bool} {n m D j : Nat} {w : List Int32} {v : Int32} (hw : w.length = 803) (hj : j ≤ D) (hD : D ≤ 400) (h : ARp f n m D w) : ARp f n m D (w.set (401 + 2 * j - D) v) := by
  refine ⟨fun e => ?_, fun e i hi => ?_⟩
  · rw [gDs (by omega), if_neg (by omega)]; exact h.1 e
  · obtain ⟨x, y, h1, h2⟩ := h.2 e i hi
    refine ⟨x, y, ?_, h2⟩
    rw [gDs (by omega), if_neg (by omega)]
    exact h1
theorem AR.set {f : Nat → Nat → Bool} {n m D j : Nat} {w : List Int32} {x y : Nat} (hw : w.length = 803) (hj : j ≤ D) (hD : D ≤ 400) (h : AR f n m D w j) (h1 : fgo f D x y) (h2 : x + D = y + 2 * j) (h3 : x ≤ 200 + D) (h4 : x < n ∨ y < m) : AR f n m D (w.set (401 + 2 * j - D) (nI x)) (j + 1) := by
  intro i hi
  by_cases e : i = j
  · subst e
    exact ⟨x, y, by rw [gDs (by omega), if_pos rfl], h1, h2, h3, h4⟩
  · obtain ⟨x', y', g1, g2⟩ := h i (by omega)
    refine ⟨x', y', ?_, g2⟩
    rw [gDs (by omega), if_neg (by omega)]
    exact g1
theorem c_reaches {E : EV} {la : Nat → Nat} {tb : Nat → Nat × Nat} {h : AH} {q rw fa t tl c u ul d : Nat} {xs ys : List Nat} (z : CG h q rw fa) (hx : TX la h t tl xs c) (hy : TX la h u ul ys d) (hT : ∀ x ∈ xs, LT la tb h x) (hU : ∀ x ∈ ys, LT la tb h x) (hl : xs.length ≤ 200) (hm : ys.length ≤ 200) {D : Nat} (hD : D ≤ 399) (hp : ARp (mt tb xs ys) xs.length ys.length D (qI h fa)) (hDd : D ≤ dst (mt tb xs ys) xs.length ys.length) : Ct E yX1_reachesEnd cX1_reachesEnd 6 (some .boolean) 6 0 [.ref q, .ref t, .ref u, .int (nI D)] h (fun v h1 => ∃ w : List Int32, h1 = sI h fa w ∧ w.length = 803 ∧ ((D = dst (mt tb xs ys) xs.length ys.length ∧ v = some (.int 1)) ∨ (D < dst (mt tb xs ys) xs.length ys.length ∧ v = some (.int 0) ∧ AR (mt tb xs ys) xs.length ys.length D w (D + 1)))) noX := by
  refine Ct_of RX1 (by decide +kernel) rfl (Nat.le_of_ble_eq_true rfl) (fun Γ X nt Q hin => ?_)
  refine V_iload_n (pc := 0) X 3 dX1_reachesEnd_0 rfl ?_
  refine V_ineg (pc := 1) X dX1_reachesEnd_1 ?_
  rw [nZ_neg (by omega)]
  refine V_istore (pc := 2) X [(4, .int _), (0, .ref _), (1, .ref _), (2, .ref _), (3, .int _)] dX1_reachesEnd_2 (by decide) rfl ?_
  have key : ∀ (n j : Nat), D + 1 - j < n → j ≤ D + 1 → ∀ (w : List Int32), w.length = 803 → ARp (mt tb xs ys) xs.length ys.length D w → AR (mt tb xs ys) xs.length ys.length D w j → V E Γ 0 (sI h fa w) 4 [(4, .int (nZ (401 + 2 * j - D))), (0, .ref q), (1, .ref t), (2, .ref u), (3, .int (nI D))] [] := by
    intro n
    induction n with
    | zero => exact fun j hn => absurd hn (Nat.not_lt_zero _)
    | succ n ih =>
      intro j hn hj w r1 r2 r3
      have z1 := z.sI2 r1
      have hqI : qI (sI h fa w) fa = w := by rw [qI_sI, if_pos rfl]
      refine V_iload (pc := 4) X 0 dX1_reachesEnd_4 rfl ?_
      refine V_iload_n (pc := 6) X 4 dX1_reachesEnd_6 rfl ?_
      refine V_icmp_gt (pc := 7) X 69 dX1_reachesEnd_7 (by decide) (fun c7 => ?_) (fun c7 => ?_)
      · have hie : D < j := by
          have := (nZ_lt (by omega) (by omega)).mp c7
          omega
        refine V_iconst (pc := 69) (v := 0) X dX1_reachesEnd_69 (by decide) ?_
        refine V_iret (pc := 70) X Q rfl rfl dX1_reachesEnd_70 ?_
        have ej : j = D + 1 := by omega
        subst ej
        exact ⟨w, rfl, r1, Or.inr ⟨AR_end r3 hDd, rfl, r3⟩⟩
      · have hlt : j ≤ D := by
          rcases Nat.lt_or_ge D j with y | y
          · exact absurd ((nZ_lt (by omega) (by omega)).mpr (by omega)) c7
          · exact y
        obtain ⟨x0, y0, i1, i2, i3, i4⟩ := AR_in hlt (by omega) r2
        refine V_aload_n (pc := 10) X 1 dX1_reachesEnd_10 rfl ?_
        refine V_aload_n (pc := 11) X 2 dX1_reachesEnd_11 rfl ?_
        refine V_aload_n (pc := 12) X 3 dX1_reachesEnd_12 rfl ?_
        refine V_iload (pc := 13) X 0 dX1_reachesEnd_13 rfl ?_
        refine V_aload_n (pc := 15) X 1 dX1_reachesEnd_15 rfl ?_
        refine V_iload (pc := 16) X 0 dX1_reachesEnd_16 rfl ?_
        refine V_iload_n (pc := 18) X 4 dX1_reachesEnd_18 rfl ?_
        refine V_callV (pc := 19) X clk1 (by decide) z1.1 _ (c_firstOn z1 (p := 401 + 2 * j - D) (D := D) (by omega) (by omega) rfl rfl) cw_X1_42 (Q.room (by decide) (by decide)) rfl (Nat.le_of_ble_eq_true rfl) rfl (by omega) dX1_reachesEnd_19 (fun _ _ z => z.elim) ?_
        rintro v19 h19 ⟨rfl, e19⟩
        rw [e19, hqI, i1]
        simp only [Option.toList_some, List.cons_append, List.nil_append]
        refine V_callV (pc := 22) X clk1 (by decide) z1.1 _ (c_wfollow z1 (TX.sI hx) (TX.sI hy) (fun x hx => LT.sI (hT x hx)) (fun x hx => LT.sI (hU x hx)) hl hm (p := 401 + 2 * j - D) (x := x0) (y := y0) (by omega) (by omega) (by omega) (by omega)) cw_X1_45 (Q.room (by decide) (by decide)) rfl (Nat.le_of_ble_eq_true rfl) rfl (by omega) dX1_reachesEnd_22 (fun _ _ z => z.elim) ?_
        rintro v22 h22 ⟨e22, k, rfl, k1, k2, k3⟩
        rw [e22]
        simp only [Option.toList_some, List.cons_append, List.nil_append]
        have hfg := i4 k k1 k2
        have hxk : x0 + k ≤ 200 + D := by omega
        refine V_istore (pc := 25) X [(5, .int _), (4, .int _), (0, .ref _), (1, .ref _), (2, .ref _), (3, .int _)] dX1_reachesEnd_25 (by decide) rfl ?_
        refine V_aload_n (pc := 27) X 2 dX1_reachesEnd_27 rfl ?_
        refine V_get (pc := 28) X fl_X1_15 dX1_reachesEnd_28 z1.1 z1.2.2.1 ?_
        refine V_sipush (pc := 31) (v := 401) X dX1_reachesEnd_31 (by decide) ?_
        refine V_iload (pc := 34) X 1 dX1_reachesEnd_34 rfl ?_
        refine V_iadd (pc := 36) X dX1_reachesEnd_36 ?_
        rw [nZ_mid]
        refine V_iload (pc := 37) X 0 dX1_reachesEnd_37 rfl ?_
        refine V_iast (pc := 39) X (Or.inl z1.2.2.2.2.1) (vp_in_nI (by rw [hqI]; omega) (by rw [hqI]; omega)) dX1_reachesEnd_39 ?_
        rw [hqI, nI_clamp (by omega), sI_sI]
        have r1s : (w.set (401 + 2 * j - D) (nI (x0 + k))).length = 803 := by rw [List.length_set]; exact r1
        refine V_iload (pc := 40) X 0 dX1_reachesEnd_40 rfl ?_
        refine V_aload_n (pc := 42) X 3 dX1_reachesEnd_42 rfl ?_
        refine V_callV (pc := 43) X clk7 (by decide) (TX.sI hx).1 _ (c_tsize (TX.sI hx)) cw_X1_18 (Q.room (by decide) (by decide)) rfl (Nat.le_of_ble_eq_true rfl) rfl (by omega) dX1_reachesEnd_43 (fun _ _ z => z.elim) ?_
        rintro v43 h43 ⟨rfl, e43⟩
        rw [e43]
        simp only [Option.toList_some, List.cons_append, List.nil_append]
        refine V_icmp_lt (pc := 46) X 63 dX1_reachesEnd_46 (by decide) (fun c46 => ?_) (fun c46 => ?_)
        · have hno : x0 + k < xs.length ∨ y0 + k < ys.length := Or.inl ((nI_ltI (by omega) (by omega)).mp c46)
          refine V_iinc (pc := 63) X 1 [(4, .int _), (5, .int _), (0, .ref _), (1, .ref _), (2, .ref _), (3, .int _)] dX1_reachesEnd_63 rfl rfl (by decide) rfl ?_
          rw [show Int32.ofInt 2 = (2 : Int32) from rfl, nZ_2, show 401 + 2 * j - D + 2 = 401 + 2 * (j + 1) - D by omega]
          refine V_goto (pc := 66) X 4 dX1_reachesEnd_66 (by decide) ?_
          refine V.sub [0, 2, 3, 4, 5] rfl ?_
          exact ih (j + 1) (by omega) (by omega) _ r1s (r2.set r1 hlt (by omega)) (r3.set r1 hlt (by omega) hfg (by omega) hxk hno)
        · have hxn : xs.length ≤ x0 + k := by
            rcases Nat.lt_or_ge (x0 + k) xs.length with y | y
            · exact absurd (nI_lt y (by omega)) c46
            · exact y
          refine V_iload (pc := 49) X 0 dX1_reachesEnd_49 rfl ?_
          refine V_iload (pc := 51) X 1 dX1_reachesEnd_51 rfl ?_
          refine V_isub (pc := 53) X dX1_reachesEnd_53 ?_
          rw [nZ_sub (x := x0 + k) (p := 401 + 2 * j - D) (by omega) (by omega) (by omega), show x0 + k + 401 - (401 + 2 * j - D) = y0 + k by omega]
          refine V_aload_n (pc := 54) X 4 dX1_reachesEnd_54 rfl ?_
          refine V_callV (pc := 55) X clk7 (by decide) (TX.sI hy).1 _ (c_tsize (TX.sI hy)) cw_X1_18 (Q.room (by decide) (by decide)) rfl (Nat.le_of_ble_eq_true rfl) rfl (by omega) dX1_reachesEnd_55 (fun _ _ z => z.elim) ?_
          rintro v55 h55 ⟨rfl, e55⟩
          rw [e55]
          simp only [Option.toList_some, List.cons_append, List.nil_append]
          refine V_icmp_lt (pc := 58) X 63 dX1_reachesEnd_58 (by decide) (fun c58 => ?_) (fun c58 => ?_)
          · have hno : x0 + k < xs.length ∨ y0 + k < ys.length := Or.inr ((nI_ltI (by omega) (by omega)).mp c58)
            refine V_iinc (pc := 63) X 1 [(4, .int _), (5, .int _), (0, .ref _), (1, .ref _), (2, .ref _), (3, .int _)] dX1_reachesEnd_63 rfl rfl (by decide) rfl ?_
            rw [show Int32.ofInt 2 = (2 : Int32) from rfl, nZ_2, show 401 + 2 * j - D + 2 = 401 + 2 * (j + 1) - D by omega]
            refine V_goto (pc := 66) X 4 dX1_reachesEnd_66 (by decide) ?_
            refine V.sub [0, 2, 3, 4, 5] rfl ?_
            exact ih (j + 1) (by omega) (by omega) _ r1s (r2.set r1 hlt (by omega)) (r3.set r1 hlt (by omega) hfg (by omega) hxk hno)
          · have hyn : ys.length ≤ y0 + k := by
              rcases Nat.lt_or_ge (y0 + k) ys.length with y | y
              · exact absurd (nI_lt y (by omega)) c58
              · exact y
            refine V_iconst (pc := 61) (v := 1) X dX1_reachesEnd_61 (by decide) ?_
            refine V_iret (pc := 62) X Q rfl rfl dX1_reachesEnd_62 ?_
            refine ⟨_, rfl, r1s, Or.inl ⟨?_, rfl⟩⟩
            have a := dst_out (f := mt tb xs ys) (n := xs.length) (m := ys.length) (fun x y hx => mt_l hx) (fun x y hy => mt_r hy) (x0 + k - xs.length) (y0 + k - ys.length)
            rw [show xs.length + (x0 + k - xs.length) = x0 + k by omega, show ys.length + (y0 + k - ys.length) = y0 + k by omega] at a
            have b := hfg.1
            omega
  refine V.heap (h' := sI h fa (qI h fa)) (sI_id h fa).symm ?_
  exact key (D + 2) 0 (by omega) (Nat.zero_le _) _ z.2.2.2.2.2.2.1 hp (fun j hj => absurd hj (Nat.not_lt_zero _))
theorem c_byWays {E : EV} {la : Nat → Nat} {tb : Nat → Nat × Nat} {h : AH} {q rw fa t tl c u ul d : Nat} {xs ys : List Nat} (z : CG h q rw fa) (hx : TX la h t tl xs c) (hy : TX la h u ul ys d) (hT : ∀ x ∈ xs, LT la tb h x) (hU : ∀ x ∈ ys, LT la tb h x) (hl : xs.length ≤ 200) (hm : ys.length ≤ 200) : Ct E yX1_byWays cX1_byWays 5 (some .int) 7 0 [.ref q, .ref t, .ref u] h (fun v h1 => v = some (.int (nI (dst (mt tb xs ys) xs.length ys.length))) ∧ ∃ w : List Int32, h1 = sI h fa w ∧ w.length = 803) noX := by
  refine Ct_of RX1 (by decide +kernel) rfl (Nat.le_of_ble_eq_true rfl) (fun Γ X nt Q hin => ?_)
  refine V_aload_n (pc := 0) X 1 dX1_byWays_0 rfl ?_
  refine V_callV (pc := 1) X clk7 (by decide) hx.1 _ (c_tsize hx) cw_X1_18 (Q.room (by decide) (by decide)) rfl (Nat.le_of_ble_eq_true rfl) rfl (by omega) dX1_byWays_1 (fun _ _ z => z.elim) ?_
  rintro v1 h1 ⟨rfl, e1⟩
  rw [e1]
  simp only [Option.toList_some, List.cons_append, List.nil_append]
  refine V_aload_n (pc := 4) X 2 dX1_byWays_4 rfl ?_
  refine V_callV (pc := 5) X clk7 (by decide) hy.1 _ (c_tsize hy) cw_X1_18 (Q.room (by decide) (by decide)) rfl (Nat.le_of_ble_eq_true rfl) rfl (by omega) dX1_byWays_5 (fun _ _ z => z.elim) ?_
  rintro v5 h5 ⟨rfl, e5⟩
  rw [e5]
  simp only [Option.toList_some, List.cons_append, List.nil_append]
  refine V_iadd (pc := 8) X dX1_byWays_8 ?_
  rw [nI_add]
  refine V_sipush (pc := 9) (v := 400) X dX1_byWays_9 (by decide) ?_
  refine V_mmin (pc := 12) X mm_X1_24 ⟨Q.fr (by decide), Q.lo (by decide)⟩ (Nat.le_of_ble_eq_true rfl) dX1_byWays_12 ?_
  rw [if_neg (fun w : (400 : Int32) < nI (xs.length + ys.length) => absurd ((nI_ltI (a := 400) (by decide) (by omega)).mp w) (by omega))]
  refine V_istore_n (pc := 15) X [(3, .int _), (0, .ref _), (1, .ref _), (2, .ref _)] dX1_byWays_15 rfl (by decide) rfl ?_
  refine V_aload_n (pc := 16) X 1 dX1_byWays_16 rfl ?_
  refine V_get (pc := 17) X fl_X1_15 dX1_byWays_17 z.1 z.2.2.1 ?_
  refine V_sipush (pc := 20) (v := 402) X dX1_byWays_20 (by decide) ?_
  refine V_iconst (pc := 23) (v := 0) X dX1_byWays_23 (by decide) ?_
  refine V_iast (pc := 24) X (Or.inl z.2.2.2.2.1) (vp_in_nI (n := 402) (by have := z.2.2.2.2.2.2.1; omega) (by have := z.2.2.2.2.2.2.1; omega)) dX1_byWays_24 ?_
  rw [show ((402 : Int32)).toNatClampNeg = 402 from rfl]
  refine V_iconst (pc := 25) (v := 0) X dX1_byWays_25 (by decide) ?_
  refine V_istore (pc := 26) X [(4, .int _), (3, .int _), (0, .ref _), (1, .ref _), (2, .ref _)] dX1_byWays_26 (by decide) rfl ?_
  have key : ∀ (n D : Nat), xs.length + ys.length + 1 - D < n → D ≤ xs.length + ys.length → ∀ (w : List Int32), w.length = 803 → ARp (mt tb xs ys) xs.length ys.length D w → D ≤ dst (mt tb xs ys) xs.length ys.length → V E Γ 0 (sI h fa w) 28 [(4, .int (nI D)), (3, .int (nI (xs.length + ys.length))), (0, .ref q), (1, .ref t), (2, .ref u)] [] := by
    intro n
    induction n with
    | zero => exact fun D hn => absurd hn (Nat.not_lt_zero _)
    | succ n ih =>
      intro D hn hDn w r1 r2 r3
      have z1 := z.sI2 r1
      have hqI : qI (sI h fa w) fa = w := by rw [qI_sI, if_pos rfl]
      have hup := dst_up (mt tb xs ys) xs.length ys.length
      refine V_iload (pc := 28) X 0 dX1_byWays_28 rfl ?_
      refine V_iload_n (pc := 30) X 1 dX1_byWays_30 rfl ?_
      refine V_icmp_ge (pc := 31) X 54 dX1_byWays_31 (by decide) (fun c31 => ?_) (fun c31 => ?_)
      · have hie : ¬ D < xs.length + ys.length := fun z => nI_ge z (by omega) c31
        refine V_iload_n (pc := 54) X 1 dX1_byWays_54 rfl ?_
        refine V_iret (pc := 55) X Q rfl rfl dX1_byWays_55 ?_
        have ed : xs.length + ys.length = dst (mt tb xs ys) xs.length ys.length := by omega
        exact ⟨by rw [ed], w, rfl, r1⟩
      · have hlt : D < xs.length + ys.length := by
          rcases Nat.lt_or_ge D (xs.length + ys.length) with z | z
          · exact z
          · exact absurd (nI_le z (by omega)) c31
        refine V_aload_n (pc := 34) X 2 dX1_byWays_34 rfl ?_
        refine V_aload_n (pc := 35) X 3 dX1_byWays_35 rfl ?_
        refine V_aload_n (pc := 36) X 4 dX1_byWays_36 rfl ?_
        refine V_iload (pc := 37) X 0 dX1_byWays_37 rfl ?_
        refine V_callV (pc := 39) X clk1 (by decide) z1.1 _ (c_reaches z1 (TX.sI hx) (TX.sI hy) (fun x hx => LT.sI (hT x hx)) (fun x hx => LT.sI (hU x hx)) hl hm (D := D) (by omega) (by rw [hqI]; exact r2) r3) cw_X1_38 (Q.room (by decide) (by decide)) rfl (Nat.le_of_ble_eq_true rfl) rfl (by omega) dX1_byWays_39 (fun _ _ z => z.elim) ?_
        rintro v39 h39 ⟨w2, e39, p1, p2⟩
        rw [e39, sI_sI]
        obtain ⟨bv, hbv, p3, p4⟩ : ∃ bv : Bool, v39 = some (.int (if bv then 1 else 0)) ∧ (bv = true → D = dst (mt tb xs ys) xs.length ys.length) ∧ (bv = false → D < dst (mt tb xs ys) xs.length ys.length ∧ AR (mt tb xs ys) xs.length ys.length D w2 (D + 1)) := p2.elim (fun y => ⟨true, y.2, fun _ => y.1, fun u => absurd u (by decide)⟩) (fun y => ⟨false, y.2.1, fun u => absurd u (by decide), fun _ => ⟨y.1, y.2.2⟩⟩)
        subst hbv
        simp only [Option.toList_some, List.cons_append, List.nil_append]
        refine V_if_eq (pc := 42) X 48 dX1_byWays_42 (by decide) (fun c42 => ?_) (fun c42 => ?_)
        · have hb : bv = false := by
            cases bv with
            | false => rfl
            | true => exact absurd c42 (by decide)
          obtain ⟨p5, p6⟩ := p4 hb
          refine V_inc1 (pc := 48) X 0 [(4, .int _), (3, .int _), (0, .ref _), (1, .ref _), (2, .ref _)] dX1_byWays_48 rfl (by decide) rfl ?_
          rw [nI_1]
          refine V_goto (pc := 51) X 28 dX1_byWays_51 (by decide) ?_
          exact ih (D + 1) (by omega) (by omega) _ p1 ⟨fun y => absurd y (Nat.succ_ne_zero _), fun _ => by rw [Nat.add_sub_cancel]; exact p6⟩ (by omega)
        · have hb : bv = true := by
            cases bv with
            | true => rfl
            | false => exact absurd rfl c42
          have p5 := p3 hb
          refine V_iload (pc := 45) X 0 dX1_byWays_45 rfl ?_
          refine V_iret (pc := 47) X Q rfl rfl dX1_byWays_47 ?_
          exact ⟨by rw [← p5], w2, rfl, p1⟩
  exact key (xs.length + ys.length + 2) 0 (by omega) (Nat.zero_le _) _ (by rw [List.length_set]; exact z.2.2.2.2.2.2.1) ⟨fun _ => by rw [gDs (by have := z.2.2.2.2.2.2.1; omega), if_pos rfl]; rfl, fun y => absurd y (Nat.lt_irrefl _)⟩ (Nat.zero_le _)
