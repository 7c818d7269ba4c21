/-! THE MODEL: PLACES MOVE -/
def mvq (o : SO) (c : Nat) : Nat := if o.1 = 0 then c else mvp o c
theorem mvq_le (o : SO) (c : Nat) : mvq o c ≤ c + 1 := by unfold mvq mvp; (repeat' split) <;> omega
theorem m_follows {E : EV} {h : AH} {q : Nat} {A : Nat → Nat} {F : MS'} (mp : MP h q A F) {tb : Nat → Nat × Nat} {i c : Nat} {o : SO} (hi : i < 1401) (so : SL tb F i o) (hp : o.2.1 < 2 ^ 29) (hc : c < 2 ^ 29) : Ct E yX9_follows cX9_follows 3 (some .int) 1 0 [.ref q, .int (nI c), .int (nI i)] h (fun v h1 => v = some (.int (nI (mvq o c))) ∧ h1 = h) noX := by
  refine Ct_of RX9 (by decide +kernel) rfl (Nat.le_of_ble_eq_true rfl) (fun Γ X nt Q hin => ?_)
  have o1 := so.1
  refine V_aload_n (pc := 0) X 0 dX9_follows_0 rfl ?_
  refine V_get (pc := 1) X fl_X9_7 dX9_follows_1 mp.k (mp.f 901) ?_
  refine V_iload_n (pc := 4) X 2 dX9_follows_4 rfl ?_
  refine M_ald (pc := 5) X mp ⟨by unfold isA; decide, by decide⟩ (by show _ < 1401; omega) dX9_follows_5 ?_
  rw [so.2.1]
  refine V_if_eq (pc := 6) X 19 dX9_follows_6 (by decide) (fun c6 => ?_) (fun c6 => ?_)
  · have k6 : o.1 = 0 := (nI_eq (by omega) (by decide)).mp c6
    refine V_iload_n (pc := 19) X 1 dX9_follows_19 rfl ?_
    refine V_iret (pc := 20) X Q rfl rfl dX9_follows_20 ?_
    refine ⟨?_, rfl⟩
    first
    | (rw [show mvq o c = c from if_pos k6]; done)
    | (rw [em]; unfold mvp; rw [if_pos k16]; done)
  · have k6 : o.1 ≠ 0 := fun y => c6 (by rw [y]; rfl)
    have em : mvq o c = mvp o c := if_neg k6
    refine V_aload_n (pc := 9) X 0 dX9_follows_9 rfl ?_
    refine V_get (pc := 10) X fl_X9_13 dX9_follows_10 mp.k (mp.f 902) ?_
    refine V_iload_n (pc := 13) X 2 dX9_follows_13 rfl ?_
    refine M_ald (pc := 14) X mp ⟨by unfold isA; decide, by decide⟩ (by show _ < 1401; omega) dX9_follows_14 ?_
    rw [so.2.2.1 k6]
    refine V_iload_n (pc := 15) X 1 dX9_follows_15 rfl ?_
    refine V_icmp_lt (pc := 16) X 21 dX9_follows_16 (by decide) (fun c16 => ?_) (fun c16 => ?_)
    · have k16 : o.2.1 < c := (nI_ltI (by omega) (by omega)).mp c16
      have e16 : ¬ c ≤ o.2.1 := by omega
      refine V_aload_n (pc := 21) X 0 dX9_follows_21 rfl ?_
      refine V_get (pc := 22) X fl_X9_7 dX9_follows_22 mp.k (mp.f 901) ?_
      refine V_iload_n (pc := 25) X 2 dX9_follows_25 rfl ?_
      refine M_ald (pc := 26) X mp ⟨by unfold isA; decide, by decide⟩ (by show _ < 1401; omega) dX9_follows_26 ?_
      rw [so.2.1]
      refine V_iconst (pc := 27) (v := 1) X dX9_follows_27 (by decide) ?_
      show V _ _ _ _ _ _ (Value.int (nI 1) :: _)
      refine V_icmp_ne (pc := 28) X 37 dX9_follows_28 (by decide) (fun c28 => ?_) (fun c28 => ?_)
      · have k28 : ¬ o.1 = 1 := fun y => c28 (by rw [y])
        have k2 : o.1 = 2 := by omega
        refine V_iload_n (pc := 37) X 1 dX9_follows_37 rfl ?_
        refine V_iconst (pc := 38) (v := 1) X dX9_follows_38 (by decide) ?_
        show V _ _ _ _ _ _ (Value.int (nI 1) :: _)
        refine V_isub (pc := 39) X dX9_follows_39 ?_
        rw [pk_sub (by omega)]
        refine V_iret (pc := 40) X Q rfl rfl dX9_follows_40 ?_
        refine ⟨?_, rfl⟩
        rw [em]
        unfold mvp
        first
        | (rw [if_neg e16, if_neg k28, if_pos k2]; done)
        | (rw [if_neg e16, if_pos k28]; done)
      · have k28 : o.1 = 1 := (nI_eq (by omega) (by decide)).mp c28
        refine V_iload_n (pc := 31) X 1 dX9_follows_31 rfl ?_
        refine V_iconst (pc := 32) (v := 1) X dX9_follows_32 (by decide) ?_
        show V _ _ _ _ _ _ (Value.int (nI 1) :: _)
        refine V_iadd (pc := 33) X dX9_follows_33 ?_
        rw [nI_add]
        refine V_goto (pc := 34) X 40 dX9_follows_34 (by decide) ?_
        refine V_iret (pc := 40) X Q rfl rfl dX9_follows_40 ?_
        refine ⟨?_, rfl⟩
        rw [em]
        unfold mvp
        first
        | (rw [if_neg e16, if_neg k28, if_pos k2]; done)
        | (rw [if_neg e16, if_pos k28]; done)
    · have k16 : c ≤ o.2.1 := by
        rcases Nat.lt_or_ge o.2.1 c with y | y
        · exact absurd (nI_lt y (by omega)) c16
        · exact y
      refine V_iload_n (pc := 19) X 1 dX9_follows_19 rfl ?_
      refine V_iret (pc := 20) X Q rfl rfl dX9_follows_20 ?_
      refine ⟨?_, rfl⟩
      first
      | (rw [show mvq o c = c from if_pos k6]; done)
      | (rw [em]; unfold mvp; rw [if_pos k16]; done)
theorem m_behind {E : EV} {h : AH} {q : Nat} {A : Nat → Nat} {F : MS'} (mp : MP h q A F) {tb : Nat → Nat × Nat} {i : Nat} {o : SO} (hi : i < 1401) (so : SL tb F i o) (h0 : o.1 ≠ 0) (hp : o.2.1 < 2 ^ 29) : Ct E yX9_behind cX9_behind 2 (some .int) 1 0 [.ref q, .int (nI i)] h (fun v h1 => v = some (.int (nI (bhd o))) ∧ h1 = h) noX := by
  refine Ct_of RX9 (by decide +kernel) rfl (Nat.le_of_ble_eq_true rfl) (fun Γ X nt Q hin => ?_)
  have o1 := so.1
  refine V_aload_n (pc := 0) X 0 dX9_behind_0 rfl ?_
  refine V_get (pc := 1) X fl_X9_7 dX9_behind_1 mp.k (mp.f 901) ?_
  refine V_iload_n (pc := 4) X 1 dX9_behind_4 rfl ?_
  refine M_ald (pc := 5) X mp ⟨by unfold isA; decide, by decide⟩ (by show _ < 1401; omega) dX9_behind_5 ?_
  rw [so.2.1]
  refine V_iconst (pc := 6) (v := 1) X dX9_behind_6 (by decide) ?_
  show V _ _ _ _ _ _ (Value.int (nI 1) :: _)
  refine V_icmp_ne (pc := 7) X 21 dX9_behind_7 (by decide) (fun c7 => ?_) (fun c7 => ?_)
  · have k7 : ¬ o.1 = 1 := fun y => c7 (by rw [y])
    refine V_aload_n (pc := 21) X 0 dX9_behind_21 rfl ?_
    refine V_get (pc := 22) X fl_X9_13 dX9_behind_22 mp.k (mp.f 902) ?_
    refine V_iload_n (pc := 25) X 1 dX9_behind_25 rfl ?_
    refine M_ald (pc := 26) X mp ⟨by unfold isA; decide, by decide⟩ (by show _ < 1401; omega) dX9_behind_26 ?_
    rw [so.2.2.1 h0]
    refine V_iret (pc := 27) X Q rfl rfl dX9_behind_27 ?_
    refine ⟨?_, rfl⟩
    unfold bhd
    first
    | (rw [if_neg k7]; done)
    | (rw [if_pos k7]; done)
  · have k7 : o.1 = 1 := (nI_eq (by omega) (by decide)).mp c7
    refine V_aload_n (pc := 10) X 0 dX9_behind_10 rfl ?_
    refine V_get (pc := 11) X fl_X9_13 dX9_behind_11 mp.k (mp.f 902) ?_
    refine V_iload_n (pc := 14) X 1 dX9_behind_14 rfl ?_
    refine M_ald (pc := 15) X mp ⟨by unfold isA; decide, by decide⟩ (by show _ < 1401; omega) dX9_behind_15 ?_
    rw [so.2.2.1 h0]
    refine V_iconst (pc := 16) (v := 1) X dX9_behind_16 (by decide) ?_
    show V _ _ _ _ _ _ (Value.int (nI 1) :: _)
    refine V_iadd (pc := 17) X dX9_behind_17 ?_
    rw [nI_add]
    refine V_goto (pc := 18) X 27 dX9_behind_18 (by decide) ?_
    refine V_iret (pc := 27) X Q rfl rfl dX9_behind_27 ?_
    refine ⟨?_, rfl⟩
    unfold bhd
    first
    | (rw [if_neg k7]; done)
    | (rw [if_pos k7]; done)
theorem m_movesKept {E : EV} {h : AH} {q : Nat} {A : Nat → Nat} {F : MS'} (mp : MP h q A F) {tb : Nat → Nat × Nat} {e i N : Nat} {o : SO} {pl : Nat → Nat} (he : e ≤ 1) (hi : i < 1401) (so : SL tb F i o) (hp : o.2.1 < 2 ^ 28) (hN : F 923 e = nI N) (hN2 : N ≤ 200) (hpl : ∀ k, k < N → F 920 (200 * e + k) = nI (pl k) ∧ pl k < 2 ^ 28) : Ct E yX9_movesKept cX9_movesKept 4 none 2 0 [.ref q, .int (nI e), .int (nI i)] h (fun v h1 => v = none ∧ ∃ F', MP h1 q A F' ∧ FM h h1 ∧ (∀ x y, x ≠ 920 → F' x y = F x y) ∧ ∀ y, F' 920 y = if 200 * e ≤ y ∧ y < 200 * e + N then nI (mvq o (pl (y - 200 * e))) else F 920 y) noX := by
  refine Ct_of RX9 (by decide +kernel) rfl (Nat.le_of_ble_eq_true rfl) (fun Γ X nt Q hin => ?_)
  have gm := FM.refl h
  refine V_iconst (pc := 0) (v := 0) X dX9_movesKept_0 (by decide) ?_
  show V _ _ _ _ _ _ (Value.int (nI 0) :: _)
  refine V_istore_n (pc := 1) X [(3, .int _), (0, .ref _), (1, .int _), (2, .int _)] dX9_movesKept_1 rfl (by decide) rfl ?_
  have key : ∀ (n k : Nat), N - k < n → k ≤ N → ∀ (hr : AH) (Fz : MS'), MP hr q A Fz → FM h hr → (∀ x y, x ≠ 920 → Fz x y = F x y) → (∀ y, Fz 920 y = if 200 * e ≤ y ∧ y < 200 * e + k then nI (mvq o (pl (y - 200 * e))) else F 920 y) → V E Γ 0 hr 2 [(3, .int (nI k)), (0, .ref q), (1, .int (nI e)), (2, .int (nI i))] [] := by
    intro n
    induction n with
    | zero => exact fun k hn => absurd hn (Nat.not_lt_zero _)
    | succ n ih =>
      intro k hn hk hr Fz mpr gmr r1 r2
      have so2 : SL tb Fz i o := by unfold SL; rw [r1 901 i (by decide), r1 902 i (by decide), r1 903 i (by decide), r1 904 i (by decide), r1 905 i (by decide)]; exact so
      refine V_iload_n (pc := 2) X 0 dX9_movesKept_2 rfl ?_
      refine V_aload_n (pc := 3) X 1 dX9_movesKept_3 rfl ?_
      refine V_get (pc := 4) X fl_X9_77 dX9_movesKept_4 mpr.k (mpr.f 923) ?_
      refine V_iload_n (pc := 7) X 2 dX9_movesKept_7 rfl ?_
      refine M_ald (pc := 8) X mpr ⟨by unfold isA; decide, by decide⟩ (by show _ < 2; omega) dX9_movesKept_8 ?_
      rw [r1 923 e (by decide), hN]
      refine V_icmp_ge (pc := 9) X 47 dX9_movesKept_9 (by decide) (fun c9 => ?_) (fun c9 => ?_)
      · have hie : ¬ k < N := fun y => nI_ge y (by omega) c9
        refine V_vret (pc := 47) X Q rfl dX9_movesKept_47 ?_
        have hkN : k = N := by omega
        exact ⟨rfl, Fz, mpr, gmr, r1, fun y => by rw [r2 y, hkN]⟩
      · have hlt : k < N := by
          rcases Nat.lt_or_ge k N with y | y
          · exact y
          · exact absurd (nI_le y (by omega)) c9
        obtain ⟨p1, p2⟩ := hpl k hlt
        refine V_aload_n (pc := 12) X 1 dX9_movesKept_12 rfl ?_
        refine V_get (pc := 13) X fl_X9_68 dX9_movesKept_13 mpr.k (mpr.f 920) ?_
        refine V_sipush (pc := 16) (v := 200) X dX9_movesKept_16 (by decide) ?_
        show V _ _ _ _ _ _ (Value.int (nI 200) :: _)
        refine V_iload_n (pc := 19) X 2 dX9_movesKept_19 rfl ?_
        refine V_imul (pc := 20) X dX9_movesKept_20 ?_
        rw [pk_mul]
        refine V_iload_n (pc := 21) X 0 dX9_movesKept_21 rfl ?_
        refine V_iadd (pc := 22) X dX9_movesKept_22 ?_
        rw [nI_add]
        refine V_aload_n (pc := 23) X 1 dX9_movesKept_23 rfl ?_
        refine V_aload_n (pc := 24) X 1 dX9_movesKept_24 rfl ?_
        refine V_get (pc := 25) X fl_X9_68 dX9_movesKept_25 mpr.k (mpr.f 920) ?_
        refine V_sipush (pc := 28) (v := 200) X dX9_movesKept_28 (by decide) ?_
        show V _ _ _ _ _ _ (Value.int (nI 200) :: _)
        refine V_iload_n (pc := 31) X 2 dX9_movesKept_31 rfl ?_
        refine V_imul (pc := 32) X dX9_movesKept_32 ?_
        rw [pk_mul]
        refine V_iload_n (pc := 33) X 0 dX9_movesKept_33 rfl ?_
        refine V_iadd (pc := 34) X dX9_movesKept_34 ?_
        rw [nI_add]
        refine M_ald (pc := 35) X mpr ⟨by unfold isA; decide, by decide⟩ (by show _ < 400; omega) dX9_movesKept_35 ?_
        rw [show Fz 920 (200 * e + k) = nI (pl k) by rw [r2, if_neg (by omega)]; exact p1]
        refine V_iload_n (pc := 36) X 3 dX9_movesKept_36 rfl ?_
        refine V_callV (pc := 37) X clk9 (by decide) mpr.k _ (m_follows mpr hi so2 (c := pl k) (by omega) (by omega)) cw_X9_108 (Q.room (by decide) (by decide)) rfl (Nat.le_of_ble_eq_true rfl) rfl (by omega) dX9_movesKept_37 (fun _ _ z => z.elim) ?_
        rintro v37 h37 ⟨rfl, e37⟩
        rw [e37]
        simp only [Option.toList_some, List.cons_append, List.nil_append]
        refine M_ast (pc := 40) X mpr ⟨by unfold isA; decide, by decide⟩ (by show _ < 400; omega) dX9_movesKept_40 (fun h40 mp40 fm40 => ?_)
        have gm40 := gmr.seq fm40
        refine V_inc1 (pc := 41) X 0 [(3, .int _), (0, .ref _), (1, .int _), (2, .int _)] dX9_movesKept_41 rfl (by decide) rfl ?_
        rw [nI_1]
        refine V_goto (pc := 44) X 2 dX9_movesKept_44 (by decide) ?_
        refine ih (k + 1) (by omega) (by omega) _ _ mp40 gm40 (fun x y hx => by rw [fu_i hx]; exact r1 x y hx) (fun y => ?_)
        rw [fu_e]
        by_cases ey : y = 200 * e + k
        · rw [if_pos ey, if_pos (by omega), show y - 200 * e = k by omega]
        · rw [if_neg ey, r2]
          by_cases e2 : 200 * e ≤ y ∧ y < 200 * e + k
          · rw [if_pos e2, if_pos (by omega)]
          · rw [if_neg e2, if_neg (by omega)]
  exact key (N + 1) 0 (by omega) (Nat.zero_le _) _ F mp gm (fun _ _ _ => rfl) (fun y => by rw [if_neg (by omega)])
theorem m_codeAt {E : EV} {h : AH} {q : Nat} {A : Nat → Nat} {F : MS'} (mp : MP h q A F) {tb : Nat → Nat × Nat} {t p x : Nat} {xs : List Nat} (ht : t ≤ 2) (tx : TM tb F t xs) (hx : xs[p]? = some x) : Ct E yX9_codeAt cX9_codeAt 3 (some .int) 1 0 [.ref q, .int (nI t), .int (nI p)] h (fun v h1 => v = some (.int (nI (tb x).1)) ∧ h1 = h) noX := by
  refine Ct_of RX9 (by decide +kernel) rfl (Nat.le_of_ble_eq_true rfl) (fun Γ X nt Q hin => ?_)
  have hp := (List.getElem?_eq_some_iff.mp hx).1
  have t1 := tx.1
  refine V_aload_n (pc := 0) X 0 dX9_codeAt_0 rfl ?_
  refine V_get (pc := 1) X fl_X9_25 dX9_codeAt_1 mp.k (mp.f 906) ?_
  refine V_sipush (pc := 4) (v := 201) X dX9_codeAt_4 (by decide) ?_
  show V _ _ _ _ _ _ (Value.int (nI 201) :: _)
  refine V_iload_n (pc := 7) X 1 dX9_codeAt_7 rfl ?_
  refine V_imul (pc := 8) X dX9_codeAt_8 ?_
  rw [pk_mul]
  refine V_iload_n (pc := 9) X 2 dX9_codeAt_9 rfl ?_
  refine V_iadd (pc := 10) X dX9_codeAt_10 ?_
  rw [nI_add]
  refine M_ald (pc := 11) X mp ⟨by unfold isA; decide, by decide⟩ (by show _ < 603; omega) dX9_codeAt_11 ?_
  rw [(tx.2.2 p x hx).1]
  refine V_iret (pc := 12) X Q rfl rfl dX9_codeAt_12 ?_
  exact ⟨rfl, rfl⟩
theorem m_isCharacter {E : EV} {h : AH} {x : Int32} : Ct E yX9_isCharacter cX9_isCharacter 1 (some .boolean) 2 0 [.int x] h (fun r h1 => r = some (.int (if 32 ≤ x ∧ x ≤ 126 then 1 else 0)) ∧ h1 = h) noX := by
  refine Ct_of RX9 (by decide +kernel) rfl (Nat.le_of_ble_eq_true rfl) (fun Γ X nt Q hin => ?_)
  refine V_iload_n (pc := 0) X 0 dX9_isCharacter_0 rfl ?_
  refine V_bipush (pc := 1) (v := 32) X dX9_isCharacter_1 (by decide) ?_
  show V _ _ _ _ _ _ (Value.int (nI 32) :: _)
  refine V_bipush (pc := 3) (v := 126) X dX9_isCharacter_3 (by decide) ?_
  show V _ _ _ _ _ _ (Value.int (nI 126) :: _)
  refine V_callS (pc := 5) X _ m_isBetween cw_X9_96 (Q.room (by decide) (by decide)) rfl (Nat.le_of_ble_eq_true rfl) rfl (by omega) dX9_isCharacter_5 (fun _ _ z => z.elim) ?_
  rintro v3 h3 ⟨rfl, e3⟩
  rw [e3]
  simp only [Option.toList_some, List.cons_append, List.nil_append]
  refine V_iret (pc := 8) X Q rfl (by split <;> rfl) dX9_isCharacter_8 ?_
  exact ⟨rfl, rfl⟩
theorem m_isFull {E : EV} {h : AH} {q : Nat} {A : Nat → Nat} {F : MS'} (mp : MP h q A F) {e n M : Nat} (he : e ≤ 1) (hn : F 909 e = nI n) (hM : F 926 0 = nI M) (hn2 : n ≤ 200) (hM2 : M ≤ 200) : Ct E yX9_isFull cX9_isFull 2 (some .boolean) 1 0 [.ref q, .int (nI e)] h (fun r h1 => r = some (.int (if n < 60 ∧ M < 200 then 0 else 1)) ∧ h1 = h) noX := by
  refine Ct_of RX9 (by decide +kernel) rfl (Nat.le_of_ble_eq_true rfl) (fun Γ X nt Q hin => ?_)
  refine V_aload_n (pc := 0) X 0 dX9_isFull_0 rfl ?_
  refine V_get (pc := 1) X fl_X9_34 dX9_isFull_1 mp.k (mp.f 909) ?_
  refine V_iload_n (pc := 4) X 1 dX9_isFull_4 rfl ?_
  refine M_ald (pc := 5) X mp ⟨by unfold isA; decide, by decide⟩ (by show _ < 3; omega) dX9_isFull_5 ?_
  rw [hn]
  refine V_bipush (pc := 6) (v := 60) X dX9_isFull_6 (by decide) ?_
  show V _ _ _ _ _ _ (Value.int (nI 60) :: _)
  refine V_icmp_ge (pc := 8) X 21 dX9_isFull_8 (by decide) (fun c8 => ?_) (fun c8 => ?_)
  · have k8 : ¬ (n < 60 ∧ M < 200) := fun y => absurd ((nI_leI (by omega) (by omega)).mp c8) (by omega)
    refine V_iconst (pc := 21) (v := 1) X dX9_isFull_21 (by decide) ?_
    show V _ _ _ _ _ _ (Value.int (nI 1) :: _)
    refine V_goto (pc := 22) X 26 dX9_isFull_22 (by decide) ?_
    refine V_iret (pc := 26) X Q rfl rfl dX9_isFull_26 ?_
    refine ⟨?_, rfl⟩
    first
    | (rw [if_neg k8]; rfl)
    | (rw [if_neg k18]; rfl)
    | (rw [if_pos k18]; rfl)
  · have k8 : n < 60 := by
      rcases Nat.lt_or_ge n 60 with y | y
      · exact y
      · exact absurd (nI_le y (by omega)) c8
    refine V_aload_n (pc := 11) X 0 dX9_isFull_11 rfl ?_
    refine V_get (pc := 12) X fl_X9_125 dX9_isFull_12 mp.k (mp.s 926) ?_
    rw [hM]
    refine V_sipush (pc := 15) (v := 200) X dX9_isFull_15 (by decide) ?_
    show V _ _ _ _ _ _ (Value.int (nI 200) :: _)
    refine V_icmp_ne (pc := 18) X 25 dX9_isFull_18 (by decide) (fun c18 => ?_) (fun c18 => ?_)
    · have k18 : n < 60 ∧ M < 200 := ⟨k8, by
        rcases Nat.lt_or_ge M 200 with y | y
        · exact y
        · exact absurd (by rw [show M = 200 by omega]) c18⟩
      refine V_iconst (pc := 25) (v := 0) X dX9_isFull_25 (by decide) ?_
      show V _ _ _ _ _ _ (Value.int (nI 0) :: _)
      refine V_iret (pc := 26) X Q rfl rfl dX9_isFull_26 ?_
      refine ⟨?_, rfl⟩
      first
      | (rw [if_neg k8]; rfl)
      | (rw [if_neg k18]; rfl)
      | (rw [if_pos k18]; rfl)
    · have k18 : ¬ (n < 60 ∧ M < 200) := fun y => absurd ((nI_eq (by omega) (by decide)).mp c18) (by omega)
      refine V_iconst (pc := 21) (v := 1) X dX9_isFull_21 (by decide) ?_
      show V _ _ _ _ _ _ (Value.int (nI 1) :: _)
      refine V_goto (pc := 22) X 26 dX9_isFull_22 (by decide) ?_
      refine V_iret (pc := 26) X Q rfl rfl dX9_isFull_26 ?_
      refine ⟨?_, rfl⟩
      first
      | (rw [if_neg k8]; rfl)
      | (rw [if_neg k18]; rfl)
      | (rw [if_pos k18]; rfl)
theorem m_fails {E : EV} {h : AH} {q : Nat} {A : Nat → Nat} {F : MS'} (mp : MP h q A F) {c : Int32} : Ct E yX9_fails cX9_fails 2 (some .int) 1 0 [.ref q, .int c] h (fun v h1 => v = some (.int 0) ∧ MP h1 q A (fu F 900 0 c) ∧ FM h h1) noX := by
  refine Ct_of RX9 (by decide +kernel) rfl (Nat.le_of_ble_eq_true rfl) (fun Γ X nt Q hin => ?_)
  have gm := FM.refl h
  refine V_aload_n (pc := 0) X 0 dX9_fails_0 rfl ?_
  refine V_iload_n (pc := 1) X 1 dX9_fails_1 rfl ?_
  refine M_put (pc := 2) X mp (i := 900) (by unfold isS; decide) fl_X9_92 dX9_fails_2 (fun h2 mp2 fm2 => ?_)
  have gm2 := gm.seq fm2
  refine V_iconst (pc := 5) (v := 0) X dX9_fails_5 (by decide) ?_
  show V _ _ _ _ _ _ (Value.int (nI 0) :: _)
  refine V_iret (pc := 6) X Q rfl rfl dX9_fails_6 ?_
  exact ⟨rfl, mp2, gm2⟩
theorem m_thrown {E : EV} {h : AH} {q : Nat} {A : Nat → Nat} {F : MS'} (mp : MP h q A F)  : Ct E yX9_thrown cX9_thrown 1 (some .int) 1 0 [.ref q] h (fun v h1 => v = some (.int (F 900 0)) ∧ h1 = h) noX := by
  refine Ct_of RX9 (by decide +kernel) rfl (Nat.le_of_ble_eq_true rfl) (fun Γ X nt Q hin => ?_)
  refine V_aload_n (pc := 0) X 0 dX9_thrown_0 rfl ?_
  refine V_get (pc := 1) X fl_X9_92 dX9_thrown_1 mp.k (mp.s 900) ?_
  refine V_iret (pc := 4) X Q rfl rfl dX9_thrown_4 ?_
  exact ⟨rfl, rfl⟩
theorem m_find {E : EV} {h : AH} {q : Nat} {A : Nat → Nat} {F : MS'} (mp : MP h q A F) {tb : Nat → Nat × Nat} {e x : Nat} {xs : List Nat} (he : e ≤ 1) (tx : TM tb F e xs) (hx : x < 2 ^ 30) (hxs : ∀ y ∈ xs, y < 2 ^ 30) : Ct E yX9_find cX9_find 4 (some .int) 1 0 [.ref q, .int (nI e), .int (nI x)] h (fun v h1 => v = some (.int (oI (fnd xs x 0))) ∧ h1 = h) noX := by
  refine Ct_of RX9 (by decide +kernel) rfl (Nat.le_of_ble_eq_true rfl) (fun Γ X nt Q hin => ?_)
  have t1 := tx.1
  refine V_iconst (pc := 0) (v := 0) X dX9_find_0 (by decide) ?_
  show V _ _ _ _ _ _ (Value.int (nI 0) :: _)
  refine V_istore_n (pc := 1) X [(3, .int _), (0, .ref _), (1, .int _), (2, .int _)] dX9_find_1 rfl (by decide) rfl ?_
  have key : ∀ (n k : Nat), xs.length - k < n → k ≤ xs.length → fnd xs x 0 = fnd (xs.drop k) x k → V E Γ 0 h 2 [(3, .int (nI k)), (0, .ref q), (1, .int (nI e)), (2, .int (nI x))] [] := by
    intro n
    induction n with
    | zero => exact fun k hn => absurd hn (Nat.not_lt_zero _)
    | succ n ih =>
      intro k hn hk r1
      refine V_iload_n (pc := 2) X 0 dX9_find_2 rfl ?_
      refine V_aload_n (pc := 3) X 1 dX9_find_3 rfl ?_
      refine V_get (pc := 4) X fl_X9_34 dX9_find_4 mp.k (mp.f 909) ?_
      refine V_iload_n (pc := 7) X 2 dX9_find_7 rfl ?_
      refine M_ald (pc := 8) X mp ⟨by unfold isA; decide, by decide⟩ (by show _ < 3; omega) dX9_find_8 ?_
      rw [tx.2.1]
      refine V_icmp_ge (pc := 9) X 36 dX9_find_9 (by decide) (fun c9 => ?_) (fun c9 => ?_)
      · have hie : ¬ k < xs.length := fun y => nI_ge y (by omega) c9
        refine V_iconst (pc := 36) (v := (-1)) X dX9_find_36 (by decide) ?_
        refine V_iret (pc := 37) X Q rfl rfl dX9_find_37 ?_
        rw [List.drop_eq_nil_of_le (by omega)] at r1
        exact ⟨by rw [r1]; rfl, rfl⟩
      · have hlt : k < xs.length := by
          rcases Nat.lt_or_ge k xs.length with y | y
          · exact y
          · exact absurd (nI_le y (by omega)) c9
        obtain ⟨y, hy⟩ : ∃ y, xs[k]? = some y := ⟨_, List.getElem?_eq_getElem hlt⟩
        have hy30 := hxs y (List.mem_of_getElem? hy)
        rw [drop_at hy] at r1
        refine V_aload_n (pc := 12) X 1 dX9_find_12 rfl ?_
        refine V_get (pc := 13) X fl_X9_28 dX9_find_13 mp.k (mp.f 907) ?_
        refine V_sipush (pc := 16) (v := 201) X dX9_find_16 (by decide) ?_
        show V _ _ _ _ _ _ (Value.int (nI 201) :: _)
        refine V_iload_n (pc := 19) X 2 dX9_find_19 rfl ?_
        refine V_imul (pc := 20) X dX9_find_20 ?_
        rw [pk_mul]
        refine V_iload_n (pc := 21) X 0 dX9_find_21 rfl ?_
        refine V_iadd (pc := 22) X dX9_find_22 ?_
        rw [nI_add]
        refine M_ald (pc := 23) X mp ⟨by unfold isA; decide, by decide⟩ (by show _ < 603; omega) dX9_find_23 ?_
        rw [(tx.2.2 k y hy).2.1]
        refine V_iload_n (pc := 24) X 3 dX9_find_24 rfl ?_
        refine V_icmp_ne (pc := 25) X 30 dX9_find_25 (by decide) (fun c25 => ?_) (fun c25 => ?_)
        · have k24 : ¬ y = x := fun u => c25 (by rw [u])
          have r3 : fnd xs x 0 = fnd (xs.drop (k + 1)) x (k + 1) := r1.trans (if_neg k24)
          refine V_inc1 (pc := 30) X 0 [(3, .int _), (0, .ref _), (1, .int _), (2, .int _)] dX9_find_30 rfl (by decide) rfl ?_
          rw [nI_1]
          refine V_goto (pc := 33) X 2 dX9_find_33 (by decide) ?_
          exact ih (k + 1) (by omega) (by omega) r3
        · have k24 : y = x := (nI_eq (by omega) (by omega)).mp c25
          have r3 : fnd xs x 0 = some k := r1.trans (if_pos k24)
          refine V_iload_n (pc := 28) X 0 dX9_find_28 rfl ?_
          refine V_iret (pc := 29) X Q rfl rfl dX9_find_29 ?_
          exact ⟨by rw [r3]; rfl, rfl⟩
  exact key (xs.length + 1) 0 (by omega) (Nat.zero_le _) rfl
