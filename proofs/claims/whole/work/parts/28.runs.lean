/-! RUNS -/
def bgn (W : List SO) (i : Nat) : Bool := if i = 0 then true else match W[i - 1]?, W[i]? with
  | some a, some b => !gon a b
  | _, _ => true
theorem bgn_0 {W : List SO} {i : Nat} (h : i = 0) : bgn W i = true := if_pos h
theorem bgn_at {W : List SO} {i : Nat} {a b : SO} (h0 : i ≠ 0) (h1 : W[i - 1]? = some a) (h2 : W[i]? = some b) : bgn W i = !gon a b := by
  unfold bgn
  rw [if_neg h0]
  simp only [h1, h2]
def rlf (a : SO) : List SO → Nat
  | [] => 0
  | b :: l => if gon a b then 1 + rlf b l else 0
def rln : List SO → Nat
  | [] => 0
  | a :: l => 1 + rlf a l
def crf (a : SO) : List SO → Nat
  | [] => 0
  | b :: l => (if gon a b then 0 else 1) + crf b l
def crn : List SO → Nat
  | [] => 0
  | a :: l => 1 + crf a l
theorem rlf_le (a : SO) : ∀ l, rlf a l ≤ l.length
  | [] => Nat.le_refl _
  | b :: l => by
    have := rlf_le b l
    show (if gon a b then 1 + rlf b l else 0) ≤ l.length + 1
    split <;> omega
theorem rln_le : ∀ l, rln l ≤ l.length
  | [] => Nat.le_refl _
  | a :: l => by
    have := rlf_le a l
    show 1 + rlf a l ≤ l.length + 1
    omega
theorem crf_le (a : SO) : ∀ l, crf a l ≤ l.length
  | [] => Nat.le_refl _
  | b :: l => by
    have := crf_le b l
    show (if gon a b then 0 else 1) + crf b l ≤ l.length + 1
    split <;> omega
theorem ES.ne {h : AH} {e : Nat} {g : Nat → Nat} (z : ES h e g) {i j : Nat} (hi : 2 ≤ i) (hi7 : i ≤ 7) (hj : 2 ≤ j) (hj7 : j ≤ 7) (hij : i ≠ j) : g i ≠ g j := by
  rcases Nat.lt_or_ge i j with y | y
  · exact z.2.2.2.2.2.1 i j hi y hj7
  · exact fun w => z.2.2.2.2.2.1 j i hj (by omega) hi7 w.symm
theorem ES.n0 {h : AH} {e : Nat} {g : Nat → Nat} (z : ES h e g) {i : Nat} (hi : 2 ≤ i) (hi7 : i ≤ 7) : g 0 ≠ g i := fun w => by have a := z.1; have b := z.2.2.2.2.1 i hi hi7; rw [w] at a; omega
theorem ES.n1 {h : AH} {e : Nat} {g : Nat → Nat} (z : ES h e g) {i : Nat} (hi : 2 ≤ i) (hi7 : i ≤ 7) : g 1 ≠ g i := fun w => by have a := z.2.2.2.1; have b := z.2.2.2.2.1 i hi hi7; rw [w] at a; omega
theorem ES.l {h : AH} {e : Nat} {g : Nat → Nat} (z : ES h e g) (i : Nat) (hi : 2 ≤ i := by decide) (hi7 : i ≤ 7 := by decide) : qK h (g i) = 11 := z.2.2.2.2.1 i hi hi7
theorem ES.f {h : AH} {e : Nat} {g : Nat → Nat} (z : ES h e g) (i : Nat) (hi : 1 ≤ i := by decide) (hi7 : i ≤ 6 := by decide) : qF h (200 + i) (g 0) = .ref (g i) := z.2.2.1 i hi hi7
theorem take_del {R1 R2 : List Nat} {i : Nat} (hi : i < R1.length) : lDel (R1.take (i + 1) ++ R2) i = R1.take i ++ R2 := by
  unfold lDel
  have h1 : (R1.take (i + 1)).length = i + 1 := by rw [List.length_take]; omega
  rw [List.take_append_of_le_length (by omega), List.take_take, show min i (i + 1) = i by omega, List.drop_append, List.drop_eq_nil_of_le (by omega), h1, Nat.sub_self]
  rfl
theorem c_begins {E : EV} {la : Nat → Nat} {h : AH} {e : Nat} {g : Nat → Nat} {R : List Nat} {W : List SO} (hE : ES h e g) (hL : qL h (g 3) = R) (hO : OPs la h R W) (hw : ∀ o ∈ W, o.1 ≤ 2 ∧ o.2.1 < 2 ^ 29) (hRl : R.length < 2 ^ 29) {i : Nat} (hi : i < R.length) : Ct E yX2_beginsRun cX2_beginsRun 2 (some .boolean) 4 0 [.ref (g 0), .int (nI i)] h (fun v h1 => v = some (.int (if bgn W i then 1 else 0)) ∧ h1 = h) noX := by
  refine Ct_of RX2 (by decide +kernel) rfl (Nat.le_of_ble_eq_true rfl) (fun Γ X nt Q hin => ?_)
  have hRW := hO.1
  refine V_iload_n (pc := 0) X 1 dX2_beginsRun_0 rfl ?_
  refine V_if_eq (pc := 1) X 34 dX2_beginsRun_1 (by decide) (fun c1 => ?_) (fun c1 => ?_)
  · have e0 : i = 0 := (nI_eq (b := 0) (by omega) (by decide)).mp c1
    refine V_iconst (pc := 34) (v := 1) X dX2_beginsRun_34 (by decide) ?_
    refine V_goto (pc := 35) X 39 dX2_beginsRun_35 (by decide) ?_
    refine V_iret (pc := 39) X Q rfl rfl dX2_beginsRun_39 ?_
    refine ⟨?_, rfl⟩
    first
    | (rw [if_pos (bgn_0 e0)]; done)
    | (have eg : gon d o = true := by
        by_cases z : gon d o = true
        · exact z
        · rw [if_neg z] at c31; exact absurd rfl c31
       rw [bgn_at e0 hd1 ho1, eg]; rfl)
    | (have eg : gon d o = false := by
        by_cases z : gon d o = true
        · rw [if_pos z] at c31; exact absurd c31 (by decide)
        · simpa using z
       rw [bgn_at e0 hd1 ho1, eg]; rfl)
  · have e0 : i ≠ 0 := fun z => c1 (by rw [z]; rfl)
    obtain ⟨r, o, hr1, ho1, ho⟩ := hO.at hi
    obtain ⟨s, d, hs1, hd1, hd⟩ := hO.at (i := i - 1) (by omega)
    have w1 := hw o (List.mem_of_getElem? ho1)
    have w2 := hw d (List.mem_of_getElem? hd1)
    refine V_aload_n (pc := 4) X 0 dX2_beginsRun_4 rfl ?_
    refine V_get (pc := 5) X fl_X2_23 dX2_beginsRun_5 hE.1 (hE.f 3) ?_
    refine V_iload_n (pc := 8) X 1 dX2_beginsRun_8 rfl ?_
    refine V_callL (pc := 9) X (Or.inl (hE.l 3)) _ (c_get (i := i) (x := r) (hE.l 3) (by rw [hL]; exact hr1) (by rw [hL]; omega)) cw_X2_87 (Q.room (by decide) (by decide)) rfl (Nat.le_of_ble_eq_true rfl) rfl (by omega) dX2_beginsRun_9 (fun _ _ z => z.elim) ?_
    rintro v9 h9 ⟨rfl, e9⟩
    rw [e9]
    simp only [Option.toList_some, List.cons_append, List.nil_append]
    refine V_cast (pc := 12) X clk6 (by decide) ck_X2_53 ho.1 dX2_beginsRun_12 ?_
    refine V_aload_n (pc := 15) X 0 dX2_beginsRun_15 rfl ?_
    refine V_get (pc := 16) X fl_X2_23 dX2_beginsRun_16 hE.1 (hE.f 3) ?_
    refine V_iload_n (pc := 19) X 1 dX2_beginsRun_19 rfl ?_
    refine V_iconst (pc := 20) (v := 1) X dX2_beginsRun_20 (by decide) ?_
    refine V_isub (pc := 21) X dX2_beginsRun_21 ?_
    rw [nI_m1 (by omega)]
    refine V_callL (pc := 22) X (Or.inl (hE.l 3)) _ (c_get (i := i - 1) (x := s) (hE.l 3) (by rw [hL]; exact hs1) (by rw [hL]; omega)) cw_X2_87 (Q.room (by decide) (by decide)) rfl (Nat.le_of_ble_eq_true rfl) rfl (by omega) dX2_beginsRun_22 (fun _ _ z => z.elim) ?_
    rintro v22 h22 ⟨rfl, e22⟩
    rw [e22]
    simp only [Option.toList_some, List.cons_append, List.nil_append]
    refine V_cast (pc := 25) X clk6 (by decide) ck_X2_53 hd.1 dX2_beginsRun_25 ?_
    refine V_callV (pc := 28) X clk6 (by decide) ho.1 _ (c_goesOn ho hd w1.1 w2.1 (by omega) (by omega)) cw_X2_126 (Q.room (by decide) (by decide)) rfl (Nat.le_of_ble_eq_true rfl) rfl (by omega) dX2_beginsRun_28 (fun _ _ z => z.elim) ?_
    rintro v28 h28 ⟨rfl, e28⟩
    rw [e28]
    simp only [Option.toList_some, List.cons_append, List.nil_append]
    refine V_if_ne (pc := 31) X 38 dX2_beginsRun_31 (by decide) (fun c31 => ?_) (fun c31 => ?_)
    · refine V_iconst (pc := 38) (v := 0) X dX2_beginsRun_38 (by decide) ?_
      refine V_iret (pc := 39) X Q rfl rfl dX2_beginsRun_39 ?_
      refine ⟨?_, rfl⟩
      first
      | (rw [if_pos (bgn_0 e0)]; done)
      | (have eg : gon d o = true := by
          by_cases z : gon d o = true
          · exact z
          · rw [if_neg z] at c31; exact absurd rfl c31
         rw [bgn_at e0 hd1 ho1, eg]; rfl)
      | (have eg : gon d o = false := by
          by_cases z : gon d o = true
          · rw [if_pos z] at c31; exact absurd c31 (by decide)
          · simpa using z
         rw [bgn_at e0 hd1 ho1, eg]; rfl)
    · refine V_iconst (pc := 34) (v := 1) X dX2_beginsRun_34 (by decide) ?_
      refine V_goto (pc := 35) X 39 dX2_beginsRun_35 (by decide) ?_
      refine V_iret (pc := 39) X Q rfl rfl dX2_beginsRun_39 ?_
      refine ⟨?_, rfl⟩
      first
      | (rw [if_pos (bgn_0 e0)]; done)
      | (have eg : gon d o = true := by
          by_cases z : gon d o = true
          · exact z
          · rw [if_neg z] at c31; exact absurd rfl c31
         rw [bgn_at e0 hd1 ho1, eg]; rfl)
      | (have eg : gon d o = false := by
          by_cases z : gon d o = true
          · rw [if_pos z] at c31; exact absurd c31 (by decide)
          · simpa using z
         rw [bgn_at e0 hd1 ho1, eg]; rfl)
theorem c_firstRun {E : EV} {la : Nat → Nat} {h : AH} {e : Nat} {g : Nat → Nat} {R : List Nat} {W : List SO} (hE : ES h e g) (hL : qL h (g 3) = R) (hO : OPs la h R W) (hw : ∀ o ∈ W, o.1 ≤ 2 ∧ o.2.1 < 2 ^ 29) (hRl : R.length < 2 ^ 29) : Ct E yX2_firstRunSize cX2_firstRunSize 2 (some .int) 5 0 [.ref (g 0)] h (fun v h1 => v = some (.int (nI (rln W))) ∧ h1 = h) noX := by
  refine Ct_of RX2 (by decide +kernel) rfl (Nat.le_of_ble_eq_true rfl) (fun Γ X nt Q hin => ?_)
  have hRW := hO.1
  refine V_iconst (pc := 0) (v := 0) X dX2_firstRunSize_0 (by decide) ?_
  refine V_istore_n (pc := 1) X [(1, .int _), (0, .ref _)] dX2_firstRunSize_1 rfl (by decide) rfl ?_
  have key : ∀ (n i : Nat), R.length - i < n → i ≤ R.length → (i = 0 ∨ ∃ a, W[i - 1]? = some a ∧ i + rlf a (W.drop i) = rln W) → V E Γ 0 h 2 [(1, .int (nI i)), (0, .ref (g 0))] [] := by
    intro n
    induction n with
    | zero => exact fun i hn => absurd hn (Nat.not_lt_zero _)
    | succ n ih =>
      intro i hn hi r1
      refine V_iload_n (pc := 2) X 0 dX2_firstRunSize_2 rfl ?_
      refine V_aload_n (pc := 3) X 1 dX2_firstRunSize_3 rfl ?_
      refine V_get (pc := 4) X fl_X2_23 dX2_firstRunSize_4 hE.1 (hE.f 3) ?_
      refine V_callL (pc := 7) X (Or.inl (hE.l 3)) _ (c_size (hE.l 3)) cw_X2_84 (Q.room (by decide) (by decide)) rfl (Nat.le_of_ble_eq_true rfl) rfl (by omega) dX2_firstRunSize_7 (fun _ _ z => z.elim) ?_
      rintro v7 h7 ⟨rfl, e7⟩
      rw [e7, hL]
      simp only [Option.toList_some, List.cons_append, List.nil_append]
      refine V_icmp_ge (pc := 10) X 31 dX2_firstRunSize_10 (by decide) (fun c10 => ?_) (fun c10 => ?_)
      · have hie : ¬ i < R.length := fun z => nI_ge z (by omega) c10
        refine V_iload_n (pc := 31) X 0 dX2_firstRunSize_31 rfl ?_
        refine V_iret (pc := 32) X Q rfl rfl dX2_firstRunSize_32 ?_
        refine ⟨?_, rfl⟩
        first
        | (rw [← ha3]; rfl)
        | (rcases r1 with z | ⟨a, ha1, ha2⟩
           · subst z
             have : W = [] := List.length_eq_zero_iff.mp (by omega)
             subst this
             rfl
           · rw [List.drop_eq_nil_of_le (by omega)] at ha2
             rw [← ha2]; rfl)
      · have hlt : i < R.length := by
          rcases Nat.lt_or_ge i (R.length) with z | z
          · exact z
          · exact absurd (nI_le z (by omega)) c10
        obtain ⟨o, ho1⟩ : ∃ o, W[i]? = some o := ⟨_, List.getElem?_eq_getElem (by omega)⟩
        refine V_iload_n (pc := 13) X 0 dX2_firstRunSize_13 rfl ?_
        refine V_if_eq (pc := 14) X 25 dX2_firstRunSize_14 (by decide) (fun c14 => ?_) (fun c14 => ?_)
        · have e0 : i = 0 := (nI_eq (b := 0) (by omega) (by decide)).mp c14
          refine V_inc1 (pc := 25) X 0 [(1, .int _), (0, .ref _)] dX2_firstRunSize_25 rfl (by decide) rfl ?_
          rw [nI_1]
          refine V_goto (pc := 28) X 2 dX2_firstRunSize_28 (by decide) ?_
          refine ih (i + 1) (by omega) (by omega) (Or.inr ⟨o, by rw [Nat.add_sub_cancel]; exact ho1, ?_⟩)
          subst e0
          cases W with
          | nil => simp at ho1
          | cons y ys => simp at ho1; subst ho1; rfl
        · have e0 : i ≠ 0 := fun z => c14 (by rw [z]; rfl)
          obtain ⟨a, ha1, ha2⟩ := r1.resolve_left e0
          have hbg := bgn_at e0 ha1 ho1
          rw [drop_at ho1] at ha2
          refine V_aload_n (pc := 17) X 1 dX2_firstRunSize_17 rfl ?_
          refine V_iload_n (pc := 18) X 0 dX2_firstRunSize_18 rfl ?_
          refine V_callV (pc := 19) X clk2 (by decide) hE.1 _ (c_begins hE hL hO hw hRl hlt) cw_X2_101 (Q.room (by decide) (by decide)) rfl (Nat.le_of_ble_eq_true rfl) rfl (by omega) dX2_firstRunSize_19 (fun _ _ z => z.elim) ?_
          rintro v19 h19 ⟨rfl, e19⟩
          rw [e19]
          simp only [Option.toList_some, List.cons_append, List.nil_append]
          refine V_if_ne (pc := 22) X 31 dX2_firstRunSize_22 (by decide) (fun c22 => ?_) (fun c22 => ?_)
          · have eg : ¬ gon a o = true := fun z => by
              rw [hbg, z] at c22; exact absurd rfl c22
            have ha3 : i + (if gon a o then 1 + rlf o (W.drop (i + 1)) else 0) = rln W := ha2
            rw [if_neg eg] at ha3
            refine V_iload_n (pc := 31) X 0 dX2_firstRunSize_31 rfl ?_
            refine V_iret (pc := 32) X Q rfl rfl dX2_firstRunSize_32 ?_
            refine ⟨?_, rfl⟩
            first
            | (rw [← ha3]; rfl)
            | (rcases r1 with z | ⟨a, ha1, ha2⟩
               · subst z
                 have : W = [] := List.length_eq_zero_iff.mp (by omega)
                 subst this
                 rfl
               · rw [List.drop_eq_nil_of_le (by omega)] at ha2
                 rw [← ha2]; rfl)
          · have eg : gon a o = true := by
              by_cases z : gon a o = true
              · exact z
              · rw [hbg, show gon a o = false by simpa using z] at c22; exact absurd c22 (by decide)
            have ha3 : i + (if gon a o then 1 + rlf o (W.drop (i + 1)) else 0) = rln W := ha2
            rw [if_pos eg] at ha3
            refine V_inc1 (pc := 25) X 0 [(1, .int _), (0, .ref _)] dX2_firstRunSize_25 rfl (by decide) rfl ?_
            rw [nI_1]
            refine V_goto (pc := 28) X 2 dX2_firstRunSize_28 (by decide) ?_
            exact ih (i + 1) (by omega) (by omega) (Or.inr ⟨o, by rw [Nat.add_sub_cancel]; exact ho1, by omega⟩)
  exact key (R.length + 1) 0 (by omega) (Nat.zero_le _) (Or.inl rfl)
theorem c_runs {E : EV} {la : Nat → Nat} {h : AH} {e : Nat} {g : Nat → Nat} {R : List Nat} {W : List SO} (hE : ES h e g) (hL : qL h (g 3) = R) (hO : OPs la h R W) (hw : ∀ o ∈ W, o.1 ≤ 2 ∧ o.2.1 < 2 ^ 29) (hRl : R.length < 2 ^ 29) : Ct E yX2_countRuns cX2_countRuns 3 (some .int) 5 0 [.ref (g 0)] h (fun v h1 => v = some (.int (nI (crn W))) ∧ h1 = h) noX := by
  refine Ct_of RX2 (by decide +kernel) rfl (Nat.le_of_ble_eq_true rfl) (fun Γ X nt Q hin => ?_)
  have hRW := hO.1
  refine V_iconst (pc := 0) (v := 0) X dX2_countRuns_0 (by decide) ?_
  refine V_istore_n (pc := 1) X [(1, .int _), (0, .ref _)] dX2_countRuns_1 rfl (by decide) rfl ?_
  refine V_iconst (pc := 2) (v := 0) X dX2_countRuns_2 (by decide) ?_
  refine V_istore_n (pc := 3) X [(2, .int _), (1, .int _), (0, .ref _)] dX2_countRuns_3 rfl (by decide) rfl ?_
  have key : ∀ (n i : Nat), R.length - i < n → i ≤ R.length → ∀ s : Nat, ((i = 0 ∧ s = 0) ∨ ∃ a, i ≠ 0 ∧ W[i - 1]? = some a ∧ s + crf a (W.drop i) = crn W) → V E Γ 0 h 4 [(2, .int (nI i)), (1, .int (nI s)), (0, .ref (g 0))] [] := by
    intro n
    induction n with
    | zero => exact fun i hn => absurd hn (Nat.not_lt_zero _)
    | succ n ih =>
      intro i hn hi s r1
      refine V_iload_n (pc := 4) X 0 dX2_countRuns_4 rfl ?_
      refine V_aload_n (pc := 5) X 2 dX2_countRuns_5 rfl ?_
      refine V_get (pc := 6) X fl_X2_23 dX2_countRuns_6 hE.1 (hE.f 3) ?_
      refine V_callL (pc := 9) X (Or.inl (hE.l 3)) _ (c_size (hE.l 3)) cw_X2_84 (Q.room (by decide) (by decide)) rfl (Nat.le_of_ble_eq_true rfl) rfl (by omega) dX2_countRuns_9 (fun _ _ z => z.elim) ?_
      rintro v9 h9 ⟨rfl, e9⟩
      rw [e9, hL]
      simp only [Option.toList_some, List.cons_append, List.nil_append]
      refine V_icmp_ge (pc := 12) X 32 dX2_countRuns_12 (by decide) (fun c12 => ?_) (fun c12 => ?_)
      · have hie : ¬ i < R.length := fun z => nI_ge z (by omega) c12
        refine V_iload_n (pc := 32) X 1 dX2_countRuns_32 rfl ?_
        refine V_iret (pc := 33) X Q rfl rfl dX2_countRuns_33 ?_
        refine ⟨?_, rfl⟩
        rcases r1 with ⟨z, zs⟩ | ⟨a, e0, ha1, ha2⟩
        · subst z; subst zs
          have : W = [] := List.length_eq_zero_iff.mp (by omega)
          subst this
          rfl
        · rw [List.drop_eq_nil_of_le (by omega)] at ha2
          rw [← ha2]; rfl
      · have hlt : i < R.length := by
          rcases Nat.lt_or_ge i (R.length) with z | z
          · exact z
          · exact absurd (nI_le z (by omega)) c12
        obtain ⟨o, ho1⟩ : ∃ o, W[i]? = some o := ⟨_, List.getElem?_eq_getElem (by omega)⟩
        refine V_aload_n (pc := 15) X 2 dX2_countRuns_15 rfl ?_
        refine V_iload_n (pc := 16) X 0 dX2_countRuns_16 rfl ?_
        refine V_callV (pc := 17) X clk2 (by decide) hE.1 _ (c_begins hE hL hO hw hRl hlt) cw_X2_101 (Q.room (by decide) (by decide)) rfl (Nat.le_of_ble_eq_true rfl) rfl (by omega) dX2_countRuns_17 (fun _ _ z => z.elim) ?_
        rintro v17 h17 ⟨rfl, e17⟩
        rw [e17]
        simp only [Option.toList_some, List.cons_append, List.nil_append]
        refine V_if_eq (pc := 20) X 26 dX2_countRuns_20 (by decide) (fun c20 => ?_) (fun c20 => ?_)
        · have hb : bgn W i = false := by
            by_cases z : bgn W i = true
            · rw [if_pos z] at c20; exact absurd c20 (by decide)
            · simpa using z
          refine V_inc1 (pc := 26) X 0 [(2, .int _), (1, .int _), (0, .ref _)] dX2_countRuns_26 rfl (by decide) rfl ?_
          rw [nI_1]
          refine V_goto (pc := 29) X 4 dX2_countRuns_29 (by decide) ?_
          refine ih (i + 1) (by omega) (by omega) s (Or.inr ⟨o, by omega, by rw [Nat.add_sub_cancel]; exact ho1, ?_⟩)
          obtain ⟨a, e0, ha1, ha2⟩ := r1.resolve_left (fun z => by rw [bgn_0 z.1] at hb; exact absurd hb (by decide))
          rw [drop_at ho1] at ha2
          have ha3 : s + ((if gon a o then 0 else 1) + crf o (W.drop (i + 1))) = crn W := ha2
          have eg : gon a o = true := by
            rw [bgn_at e0 ha1 ho1] at hb
            simpa using hb
          rw [if_pos eg] at ha3
          omega
        · have hb : bgn W i = true := by
            by_cases z : bgn W i = true
            · exact z
            · rw [if_neg z] at c20; exact absurd rfl c20
          refine V_inc1 (pc := 23) X 1 [(1, .int _), (2, .int _), (0, .ref _)] dX2_countRuns_23 rfl (by decide) rfl ?_
          rw [nI_1]
          refine V_inc1 (pc := 26) X 1 [(2, .int _), (1, .int _), (0, .ref _)] dX2_countRuns_26 rfl (by decide) rfl ?_
          rw [nI_1]
          refine V_goto (pc := 29) X 4 dX2_countRuns_29 (by decide) ?_
          refine V.sub [0, 1, 2] rfl ?_
          refine ih (i + 1) (by omega) (by omega) (s + 1) (Or.inr ⟨o, by omega, by rw [Nat.add_sub_cancel]; exact ho1, ?_⟩)
          rcases r1 with ⟨e0, es⟩ | ⟨a, e0, ha1, ha2⟩
          · subst e0; subst es
            cases W with
            | nil => simp at ho1
            | cons y ys => simp at ho1; subst ho1; rfl
          · rw [drop_at ho1] at ha2
            have ha3 : s + ((if gon a o then 0 else 1) + crf o (W.drop (i + 1))) = crn W := ha2
            have eg : ¬ gon a o = true := by
              rw [bgn_at e0 ha1 ho1] at hb
              simpa using hb
            rw [if_neg eg] at ha3
            omega
  exact key (R.length + 1) 0 (by omega) (Nat.zero_le _) 0 (Or.inl ⟨rfl, rfl⟩)
theorem c_dropN {E : EV} {la : Nat → Nat} {h : AH} {e : Nat} {g : Nat → Nat} {R : List Nat} {W : List SO} (hE : ES h e g) (hL : qL h (g 3) = R) (hO : OPs la h R W) (hw : ∀ o ∈ W, o.1 ≤ 2 ∧ o.2.1 < 2 ^ 29) (hRl : R.length < 2 ^ 29) : Ct E yX2_dropNothings cX2_dropNothings 2 none 6 0 [.ref (g 0)] h (fun v h1 => v = none ∧ ∃ R1, qL h1 (g 3) = R1 ∧ OPs la h1 R1 (W.filter (fun o => o.1 ≠ 0)) ∧ R1.Sublist R ∧ qC h1 (g 3) = qC h (g 3) ∧ Fr (fun b => b = g 3) h h1) noX := by
  refine Ct_of RX2 (by decide +kernel) rfl (Nat.le_of_ble_eq_true rfl) (fun Γ X nt Q hin => ?_)
  have hRW := hO.1
  have n3 : ∀ r, r ∈ R → r ≠ g 3 := fun r hr z => by have a := hO.kind hr; have b := hE.l 3; rw [z] at a; omega
  have hel : ∀ y ∈ R, qK h y = 7 := fun y hy => hO.kind hy
  refine V_aload_n (pc := 0) X 0 dX2_dropNothings_0 rfl ?_
  refine V_get (pc := 1) X fl_X2_23 dX2_dropNothings_1 hE.1 (hE.f 3) ?_
  refine V_callL (pc := 4) X (Or.inl (hE.l 3)) _ (c_size (hE.l 3)) cw_X2_84 (Q.room (by decide) (by decide)) rfl (Nat.le_of_ble_eq_true rfl) rfl (by omega) dX2_dropNothings_4 (fun _ _ z => z.elim) ?_
  rintro v4 h4 ⟨rfl, e4⟩
  rw [e4, hL]
  simp only [Option.toList_some, List.cons_append, List.nil_append]
  refine V_iconst (pc := 7) (v := 1) X dX2_dropNothings_7 (by decide) ?_
  refine V_isub (pc := 8) X dX2_dropNothings_8 ?_
  refine V_istore_n (pc := 9) X [(1, .int _), (0, .ref _)] dX2_dropNothings_9 rfl (by decide) rfl ?_
  have key : ∀ (i : Nat), i ≤ R.length → ∀ (hr : AH) (R2 : List Nat), qL hr (g 3) = R.take i ++ R2 → OPs la hr R2 ((W.drop i).filter (fun o => o.1 ≠ 0)) → R2.Sublist (R.drop i) → qC hr (g 3) = qC h (g 3) → Fr (fun b => b = g 3) h hr → V E Γ 0 hr 10 [(1, .int (nI i - 1)), (0, .ref (g 0))] [] := by
    intro i
    induction i with
    | zero =>
      intro hi hr R2 r1 r2 r3 r4 r5
      refine V_iload_n (pc := 10) X 0 dX2_dropNothings_10 rfl ?_
      refine V_if_lt (pc := 11) X 48 dX2_dropNothings_11 (by decide) (fun c11 => ?_) (fun c11 => absurd (show nI 0 - 1 < 0 by decide) c11)
      refine V_vret (pc := 48) X Q rfl dX2_dropNothings_48 ?_
      exact ⟨rfl, R2, r1, r2, r3, r4, r5⟩
    | succ i ih =>
      intro hi hr R2 r1 r2 r3 r4 r5
      rw [nI_m1 (Nat.succ_pos i), show i.succ - 1 = i from rfl]
      have hE1 := hE.fr r5 (hE.n0 (by decide) (by decide))
      obtain ⟨r, o, hr1, ho1, ho⟩ := hO.at (i := i) (by omega)
      have ho2 := ho.fr r5 (n3 r (List.mem_of_getElem? hr1))
      have hw1 := hw o (List.mem_of_getElem? ho1)
      have hgt : (R.take (i + 1) ++ R2)[i]? = some r := by rw [List.getElem?_append_left (by rw [List.length_take]; omega), List.getElem?_take_of_lt (by omega)]; exact hr1
      have hln : (R.take (i + 1) ++ R2).length < 2 ^ 31 := by rw [List.length_append, List.length_take]; have := r3.length_le; rw [List.length_drop] at this; omega
      refine V_iload_n (pc := 10) X 0 dX2_dropNothings_10 rfl ?_
      refine V_if_lt (pc := 11) X 48 dX2_dropNothings_11 (by decide) (fun c11 => ?_) (fun c11 => ?_)
      · exact absurd c11 (nI_pos (by omega))
      · refine V_aload_n (pc := 14) X 1 dX2_dropNothings_14 rfl ?_
        refine V_get (pc := 15) X fl_X2_23 dX2_dropNothings_15 hE1.1 (hE1.f 3) ?_
        refine V_iload_n (pc := 18) X 0 dX2_dropNothings_18 rfl ?_
        refine V_callL (pc := 19) X (Or.inl (hE1.l 3)) _ (c_get (i := i) (x := r) (hE1.l 3) (by rw [r1]; exact hgt) (by rw [r1]; exact hln)) cw_X2_87 (Q.room (by decide) (by decide)) rfl (Nat.le_of_ble_eq_true rfl) rfl (by omega) dX2_dropNothings_19 (fun _ _ z => z.elim) ?_
        rintro v19 h19 ⟨rfl, e19⟩
        rw [e19]
        simp only [Option.toList_some, List.cons_append, List.nil_append]
        refine V_cast (pc := 22) X clk6 (by decide) ck_X2_53 ho2.1 dX2_dropNothings_22 ?_
        refine V_get (pc := 25) X fl_X2_119 dX2_dropNothings_25 ho2.1 ho2.2.2.2.1 ?_
        refine V_bipush (pc := 28) (v := 110) X dX2_dropNothings_28 (by decide) ?_
        refine V_icmp_ne (pc := 30) X 42 dX2_dropNothings_30 (by decide) (fun c30 => ?_) (fun c30 => ?_)
        · have e0 : o.1 ≠ 0 := fun z => c30 ((kc_0 hw1.1).mpr z)
          refine V_dec1 (pc := 42) X 0 [(1, .int _), (0, .ref _)] dX2_dropNothings_42 rfl (by decide) rfl ?_
          rw [show nI i + (-1) = nI i - 1 from (Int32.sub_eq_add_neg (nI i) 1).symm]
          refine V_goto (pc := 45) X 10 dX2_dropNothings_45 (by decide) ?_
          refine ih (by omega) hr (r :: R2) ?_ ?_ ?_ r4 r5
          · rw [r1, List.take_add_one, hr1]; simp
          · rw [drop_at ho1, List.filter_cons_of_pos (by simpa using e0)]
            exact OPs.cons ho2 r2
          · rw [drop_at hr1]; exact r3.cons_cons r
        · have e0 : o.1 = 0 := (kc_0 hw1.1).mp c30
          refine V_aload_n (pc := 33) X 1 dX2_dropNothings_33 rfl ?_
          refine V_get (pc := 34) X fl_X2_23 dX2_dropNothings_34 hE1.1 (hE1.f 3) ?_
          refine V_iload_n (pc := 37) X 0 dX2_dropNothings_37 rfl ?_
          refine V_callL (pc := 38) X (Or.inl (hE1.l 3)) _ (c_remove (x := r) (hE1.l 3) (by rw [r1]; exact hgt) (fun y hy => by
              rw [r1] at hy
              have hyR : y ∈ R := (List.mem_append.mp hy).elim List.mem_of_mem_take (fun z => List.mem_of_mem_drop (r3.subset z))
              have := r5.K (hel y hyR) (by decide)
              omega)) cw_X2_123 (Q.room (by decide) (by decide)) rfl (Nat.le_of_ble_eq_true rfl) rfl (by omega) dX2_dropNothings_38 (fun _ _ z => z.elim) ?_
          rintro v38 h38 ⟨rfl, e38⟩
          rw [e38, r1, take_del (by omega)]
          simp only [Option.toList_some, List.cons_append, List.nil_append]
          refine V_pop (pc := 41) X dX2_dropNothings_41 rfl ?_
          refine V_dec1 (pc := 42) X 0 [(1, .int _), (0, .ref _)] dX2_dropNothings_42 rfl (by decide) rfl ?_
          rw [show nI i + (-1) = nI i - 1 from (Int32.sub_eq_add_neg (nI i) 1).symm]
          refine V_goto (pc := 45) X 10 dX2_dropNothings_45 (by decide) ?_
          have F3 : Fr (fun b => b = g 3) hr (sL hr (g 3) (List.take i R ++ R2) (qC hr (g 3))) := Fr_sL rfl
          refine ih (by omega) _ R2 (by rw [qL_sL, if_pos rfl]) ?_ ?_ (by rw [qC_sL, if_pos rfl]; exact r4) (r5.seq F3)
          · rw [drop_at ho1, List.filter_cons_of_neg (by simpa using e0)]
            exact r2.fr F3 (fun y hy => n3 y (List.mem_of_mem_drop (r3.subset hy)))
          · rw [drop_at hr1]; exact r3.cons r
  exact key R.length (Nat.le_refl _) h [] (by rw [List.take_length, List.append_nil]; exact hL) (by rw [hRW, List.drop_length]; exact OPs.nil la h) (List.nil_sublist _) rfl (Fr.refl _ _)
