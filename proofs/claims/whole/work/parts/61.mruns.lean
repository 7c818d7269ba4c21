/-! THE MODEL: RUNS, ROWS -/
def SLs (tb : Nat → Nat × Nat) (F : MS') (base : Nat) (O : List SO) : Prop := ∀ (j : Nat) (o : SO), O[j]? = some o → SL tb F (base + j) o
theorem SLs.os {tb : Nat → Nat × Nat} {F F' : MS'} {base : Nat} {O : List SO} (z : SLs tb F base O) (h : ∀ k, base ≤ k → k < base + O.length → OS F' k = OS F k) : SLs tb F' base O := fun j o hj => (z j o hj).os (h _ (by omega) (by have := (List.getElem?_eq_some_iff.mp hj).1; omega))
theorem OS_of {F F' : MS'} {k : Nat} (h : ∀ i, 901 ≤ i → i ≤ 905 → F' i k = F i k) : OS F' k = OS F k := by
  unfold OS
  rw [h 901 (by decide) (by decide), h 902 (by decide) (by decide), h 903 (by decide) (by decide), h 904 (by decide) (by decide), h 905 (by decide) (by decide)]
theorem nI_eqm {x y : Nat} (hx : x < 2 ^ 30) (hy : y < 2 ^ 30) : nI x = nI y - 1 ↔ x + 1 = y := by
  rcases Nat.eq_zero_or_pos y with u | u
  · subst u
    refine ⟨fun z => ?_, fun z => by omega⟩
    have : ¬ nI x < 0 := nI_pos (by omega)
    rw [z] at this
    exact absurd (by decide) this
  · rw [nI_m1 u, nI_eq (by omega) (by omega)]
    omega
theorem crn_run : ∀ (l : List SO) (a : SO), crf a l = crn (l.drop (rlf a l))
  | [], _ => rfl
  | b :: l, a => by
    show (if gon a b then 0 else 1) + crf b l = crn ((b :: l).drop (if gon a b then 1 + rlf b l else 0))
    by_cases e : gon a b = true
    · rw [if_pos e, if_pos e, Nat.zero_add, crn_run l b, Nat.add_comm 1]
      rfl
    · rw [if_neg e, if_neg e]
      rfl
theorem crn_step {W : List SO} (h : W ≠ []) : crn W = 1 + crn (W.drop (rln W)) := by
  cases W with
  | nil => exact absurd rfl h
  | cons a l =>
    show 1 + crf a l = 1 + crn ((a :: l).drop (1 + rlf a l))
    rw [crn_run l a, Nat.add_comm 1 (rlf a l)]
    rfl
theorem m_goesOn {E : EV} {h : AH} {q : Nat} {A : Nat → Nat} {F : MS'} (mp : MP h q A F) {tb : Nat → Nat × Nat} {i j : Nat} {a b : SO} (hi : i < 1401) (hj : j < 1401) (sa : SL tb F i a) (sb : SL tb F j b) (a0 : a.1 ≠ 0) (b0 : b.1 ≠ 0) (pa : a.2.1 < 2 ^ 29) (pb : b.2.1 < 2 ^ 29) : Ct E yX9_goesOn cX9_goesOn 3 (some .boolean) 1 0 [.ref q, .int (nI i), .int (nI j)] h (fun v h1 => v = some (.int (if gon a b then 1 else 0)) ∧ h1 = h) noX := by
  refine Ct_of RX9 (by decide +kernel) rfl (Nat.le_of_ble_eq_true rfl) (fun Γ X nt Q hin => ?_)
  have a1 := sa.1
  have b1 := sb.1
  refine V_aload_n (pc := 0) X 0 dX9_goesOn_0 rfl ?_
  refine V_get (pc := 1) X fl_X9_7 dX9_goesOn_1 mp.k (mp.f 901) ?_
  refine V_iload_n (pc := 4) X 1 dX9_goesOn_4 rfl ?_
  refine M_ald (pc := 5) X mp ⟨by unfold isA; decide, by decide⟩ (by show _ < 1401; omega) dX9_goesOn_5 ?_
  rw [sa.2.1]
  refine V_aload_n (pc := 6) X 0 dX9_goesOn_6 rfl ?_
  refine V_get (pc := 7) X fl_X9_7 dX9_goesOn_7 mp.k (mp.f 901) ?_
  refine V_iload_n (pc := 10) X 2 dX9_goesOn_10 rfl ?_
  refine M_ald (pc := 11) X mp ⟨by unfold isA; decide, by decide⟩ (by show _ < 1401; omega) dX9_goesOn_11 ?_
  rw [sb.2.1]
  refine V_icmp_eq (pc := 12) X 17 dX9_goesOn_12 (by decide) (fun c12 => ?_) (fun c12 => ?_)
  · have k12 : a.1 = b.1 := (nI_eq (by omega) (by omega)).mp c12
    refine V_aload_n (pc := 17) X 0 dX9_goesOn_17 rfl ?_
    refine V_get (pc := 18) X fl_X9_7 dX9_goesOn_18 mp.k (mp.f 901) ?_
    refine V_iload_n (pc := 21) X 2 dX9_goesOn_21 rfl ?_
    refine M_ald (pc := 22) X mp ⟨by unfold isA; decide, by decide⟩ (by show _ < 1401; omega) dX9_goesOn_22 ?_
    rw [sb.2.1]
    refine V_iconst (pc := 23) (v := 1) X dX9_goesOn_23 (by decide) ?_
    show V _ _ _ _ _ _ (Value.int (nI 1) :: _)
    refine V_icmp_ne (pc := 24) X 52 dX9_goesOn_24 (by decide) (fun c24 => ?_) (fun c24 => ?_)
    · have k24 : ¬ b.1 = 1 := fun y => c24 (by rw [y])
      refine V_aload_n (pc := 52) X 0 dX9_goesOn_52 rfl ?_
      refine V_get (pc := 53) X fl_X9_13 dX9_goesOn_53 mp.k (mp.f 902) ?_
      refine V_iload_n (pc := 56) X 2 dX9_goesOn_56 rfl ?_
      refine M_ald (pc := 57) X mp ⟨by unfold isA; decide, by decide⟩ (by show _ < 1401; omega) dX9_goesOn_57 ?_
      rw [sb.2.2.1 b0]
      refine V_aload_n (pc := 58) X 0 dX9_goesOn_58 rfl ?_
      refine V_get (pc := 59) X fl_X9_13 dX9_goesOn_59 mp.k (mp.f 902) ?_
      refine V_iload_n (pc := 62) X 1 dX9_goesOn_62 rfl ?_
      refine M_ald (pc := 63) X mp ⟨by unfold isA; decide, by decide⟩ (by show _ < 1401; omega) dX9_goesOn_63 ?_
      rw [sa.2.2.1 a0]
      refine V_icmp_eq (pc := 64) X 84 dX9_goesOn_64 (by decide) (fun c64 => ?_) (fun c64 => ?_)
      · have k64 : b.2.1 = a.2.1 := (nI_eq (by omega) (by omega)).mp c64
        refine V_iconst (pc := 84) (v := 1) X dX9_goesOn_84 (by decide) ?_
        show V _ _ _ _ _ _ (Value.int (nI 1) :: _)
        refine V_goto (pc := 85) X 89 dX9_goesOn_85 (by decide) ?_
        refine V_iret (pc := 89) X Q rfl rfl dX9_goesOn_89 ?_
        refine ⟨?_, rfl⟩
        first
        | (rw [if_pos (show gon a b = true by unfold gon; rw [if_pos k24]; simp; omega)]; rfl)
        | (rw [if_pos (show gon a b = true by unfold gon; rw [if_neg k24]; simp; omega)]; rfl)
        | (rw [if_neg (show ¬ gon a b = true by unfold gon; rw [if_pos k24]; simp; omega)]; rfl)
        | (rw [if_neg (show ¬ gon a b = true by unfold gon; rw [if_neg k24]; simp; omega)]; rfl)
      · have k64 : ¬ b.2.1 = a.2.1 := fun y => c64 (by rw [y])
        refine V_aload_n (pc := 67) X 0 dX9_goesOn_67 rfl ?_
        refine V_get (pc := 68) X fl_X9_13 dX9_goesOn_68 mp.k (mp.f 902) ?_
        refine V_iload_n (pc := 71) X 2 dX9_goesOn_71 rfl ?_
        refine M_ald (pc := 72) X mp ⟨by unfold isA; decide, by decide⟩ (by show _ < 1401; omega) dX9_goesOn_72 ?_
        rw [sb.2.2.1 b0]
        refine V_aload_n (pc := 73) X 0 dX9_goesOn_73 rfl ?_
        refine V_get (pc := 74) X fl_X9_13 dX9_goesOn_74 mp.k (mp.f 902) ?_
        refine V_iload_n (pc := 77) X 1 dX9_goesOn_77 rfl ?_
        refine M_ald (pc := 78) X mp ⟨by unfold isA; decide, by decide⟩ (by show _ < 1401; omega) dX9_goesOn_78 ?_
        rw [sa.2.2.1 a0]
        refine V_iconst (pc := 79) (v := 1) X dX9_goesOn_79 (by decide) ?_
        refine V_isub (pc := 80) X dX9_goesOn_80 ?_
        refine V_icmp_ne (pc := 81) X 88 dX9_goesOn_81 (by decide) (fun c81 => ?_) (fun c81 => ?_)
        · have k81 : ¬ b.2.1 + 1 = a.2.1 := fun y => c81 ((nI_eqm (by omega) (by omega)).mpr y)
          refine V_iconst (pc := 88) (v := 0) X dX9_goesOn_88 (by decide) ?_
          show V _ _ _ _ _ _ (Value.int (nI 0) :: _)
          refine V_iret (pc := 89) X Q rfl rfl dX9_goesOn_89 ?_
          refine ⟨?_, rfl⟩
          first
          | (rw [if_pos (show gon a b = true by unfold gon; rw [if_pos k24]; simp; omega)]; rfl)
          | (rw [if_pos (show gon a b = true by unfold gon; rw [if_neg k24]; simp; omega)]; rfl)
          | (rw [if_neg (show ¬ gon a b = true by unfold gon; rw [if_pos k24]; simp; omega)]; rfl)
          | (rw [if_neg (show ¬ gon a b = true by unfold gon; rw [if_neg k24]; simp; omega)]; rfl)
        · have k81 : b.2.1 + 1 = a.2.1 := (nI_eqm (by omega) (by omega)).mp c81
          refine V_iconst (pc := 84) (v := 1) X dX9_goesOn_84 (by decide) ?_
          show V _ _ _ _ _ _ (Value.int (nI 1) :: _)
          refine V_goto (pc := 85) X 89 dX9_goesOn_85 (by decide) ?_
          refine V_iret (pc := 89) X Q rfl rfl dX9_goesOn_89 ?_
          refine ⟨?_, rfl⟩
          first
          | (rw [if_pos (show gon a b = true by unfold gon; rw [if_pos k24]; simp; omega)]; rfl)
          | (rw [if_pos (show gon a b = true by unfold gon; rw [if_neg k24]; simp; omega)]; rfl)
          | (rw [if_neg (show ¬ gon a b = true by unfold gon; rw [if_pos k24]; simp; omega)]; rfl)
          | (rw [if_neg (show ¬ gon a b = true by unfold gon; rw [if_neg k24]; simp; omega)]; rfl)
    · have k24 : b.1 = 1 := (nI_eq (by omega) (by decide)).mp c24
      refine V_aload_n (pc := 27) X 0 dX9_goesOn_27 rfl ?_
      refine V_get (pc := 28) X fl_X9_13 dX9_goesOn_28 mp.k (mp.f 902) ?_
      refine V_iload_n (pc := 31) X 2 dX9_goesOn_31 rfl ?_
      refine M_ald (pc := 32) X mp ⟨by unfold isA; decide, by decide⟩ (by show _ < 1401; omega) dX9_goesOn_32 ?_
      rw [sb.2.2.1 b0]
      refine V_aload_n (pc := 33) X 0 dX9_goesOn_33 rfl ?_
      refine V_get (pc := 34) X fl_X9_13 dX9_goesOn_34 mp.k (mp.f 902) ?_
      refine V_iload_n (pc := 37) X 1 dX9_goesOn_37 rfl ?_
      refine M_ald (pc := 38) X mp ⟨by unfold isA; decide, by decide⟩ (by show _ < 1401; omega) dX9_goesOn_38 ?_
      rw [sa.2.2.1 a0]
      refine V_iconst (pc := 39) (v := 1) X dX9_goesOn_39 (by decide) ?_
      show V _ _ _ _ _ _ (Value.int (nI 1) :: _)
      refine V_iadd (pc := 40) X dX9_goesOn_40 ?_
      rw [nI_add]
      refine V_icmp_ne (pc := 41) X 48 dX9_goesOn_41 (by decide) (fun c41 => ?_) (fun c41 => ?_)
      · have k41 : ¬ b.2.1 = a.2.1 + 1 := fun y => c41 (by rw [y])
        refine V_iconst (pc := 48) (v := 0) X dX9_goesOn_48 (by decide) ?_
        show V _ _ _ _ _ _ (Value.int (nI 0) :: _)
        refine V_goto (pc := 49) X 89 dX9_goesOn_49 (by decide) ?_
        refine V_iret (pc := 89) X Q rfl rfl dX9_goesOn_89 ?_
        refine ⟨?_, rfl⟩
        first
        | (rw [if_pos (show gon a b = true by unfold gon; rw [if_pos k24]; simp; omega)]; rfl)
        | (rw [if_pos (show gon a b = true by unfold gon; rw [if_neg k24]; simp; omega)]; rfl)
        | (rw [if_neg (show ¬ gon a b = true by unfold gon; rw [if_pos k24]; simp; omega)]; rfl)
        | (rw [if_neg (show ¬ gon a b = true by unfold gon; rw [if_neg k24]; simp; omega)]; rfl)
      · have k41 : b.2.1 = a.2.1 + 1 := (nI_eq (by omega) (by omega)).mp c41
        refine V_iconst (pc := 44) (v := 1) X dX9_goesOn_44 (by decide) ?_
        show V _ _ _ _ _ _ (Value.int (nI 1) :: _)
        refine V_goto (pc := 45) X 89 dX9_goesOn_45 (by decide) ?_
        refine V_iret (pc := 89) X Q rfl rfl dX9_goesOn_89 ?_
        refine ⟨?_, rfl⟩
        first
        | (rw [if_pos (show gon a b = true by unfold gon; rw [if_pos k24]; simp; omega)]; rfl)
        | (rw [if_pos (show gon a b = true by unfold gon; rw [if_neg k24]; simp; omega)]; rfl)
        | (rw [if_neg (show ¬ gon a b = true by unfold gon; rw [if_pos k24]; simp; omega)]; rfl)
        | (rw [if_neg (show ¬ gon a b = true by unfold gon; rw [if_neg k24]; simp; omega)]; rfl)
  · have k12 : ¬ a.1 = b.1 := fun y => c12 (by rw [y])
    refine V_iconst (pc := 15) (v := 0) X dX9_goesOn_15 (by decide) ?_
    show V _ _ _ _ _ _ (Value.int (nI 0) :: _)
    refine V_iret (pc := 16) X Q rfl rfl dX9_goesOn_16 ?_
    refine ⟨?_, rfl⟩
    rw [if_neg (by unfold gon; split <;> simp <;> omega)]; rfl
theorem m_run {E : EV} {h : AH} {q : Nat} {A : Nat → Nat} {F : MS'} (mp : MP h q A F) {tb : Nat → Nat × Nat} {e f : Nat} {W : List SO} (he : e ≤ 1) (hW : SLs tb F (400 + 200 * e) W) (hN : F 911 e = nI W.length) (hl : W.length ≤ 200) (hf : f < W.length) (h0 : ∀ o ∈ W, o.1 ≠ 0 ∧ o.2.1 < 2 ^ 28) : Ct E yX9_run cX9_run 4 (some .int) 2 0 [.ref q, .int (nI e), .int (nI f)] h (fun v h1 => v = some (.int (nI (rln (W.drop f)))) ∧ h1 = h) noX := by
  refine Ct_of RX9 (by decide +kernel) rfl (Nat.le_of_ble_eq_true rfl) (fun Γ X nt Q hin => ?_)
  obtain ⟨a0, ha0⟩ : ∃ a, W[f]? = some a := ⟨_, List.getElem?_eq_getElem hf⟩
  refine V_iconst (pc := 0) (v := 1) X dX9_run_0 (by decide) ?_
  show V _ _ _ _ _ _ (Value.int (nI 1) :: _)
  refine V_istore_n (pc := 1) X [(3, .int _), (0, .ref _), (1, .int _), (2, .int _)] dX9_run_1 rfl (by decide) rfl ?_
  have key : ∀ (n k : Nat), W.length - k < n → 1 ≤ k → f + k ≤ W.length → ∀ a, W[f + k - 1]? = some a → rln (W.drop f) = k + rlf a (W.drop (f + k)) → V E Γ 0 h 2 [(3, .int (nI k)), (0, .ref q), (1, .int (nI e)), (2, .int (nI f))] [] := by
    intro n
    induction n with
    | zero => exact fun k hn => absurd hn (Nat.not_lt_zero _)
    | succ n ih =>
      intro k hn hk hfk a ha r1
      refine V_iload_n (pc := 2) X 3 dX9_run_2 rfl ?_
      refine V_iload_n (pc := 3) X 0 dX9_run_3 rfl ?_
      refine V_iadd (pc := 4) X dX9_run_4 ?_
      rw [nI_add]
      refine V_aload_n (pc := 5) X 1 dX9_run_5 rfl ?_
      refine V_get (pc := 6) X fl_X9_40 dX9_run_6 mp.k (mp.f 911) ?_
      refine V_iload_n (pc := 9) X 2 dX9_run_9 rfl ?_
      refine M_ald (pc := 10) X mp ⟨by unfold isA; decide, by decide⟩ (by show _ < 2; omega) dX9_run_10 ?_
      rw [hN]
      refine V_icmp_ge (pc := 11) X 45 dX9_run_11 (by decide) (fun c11 => ?_) (fun c11 => ?_)
      · have hie : ¬ f + k < W.length := fun y => nI_ge y (by omega) c11
        refine V_iload_n (pc := 45) X 0 dX9_run_45 rfl ?_
        refine V_iret (pc := 46) X Q rfl rfl dX9_run_46 ?_
        refine ⟨?_, rfl⟩
        first
        | (rw [r2]; rfl)
        | (rw [r1, List.drop_eq_nil_of_le (by omega)]; rfl)
      · have hlt : f + k < W.length := by
          rcases Nat.lt_or_ge (f + k) (W.length) with y | y
          · exact y
          · exact absurd (nI_le y (by omega)) c11
        obtain ⟨b, hb⟩ : ∃ b, W[f + k]? = some b := ⟨_, List.getElem?_eq_getElem hlt⟩
        rw [drop_at hb] at r1
        obtain ⟨x1, x2⟩ := h0 a (List.mem_of_getElem? ha)
        obtain ⟨x3, x4⟩ := h0 b (List.mem_of_getElem? hb)
        have r2 : rln (W.drop f) = k + (if gon a b then 1 + rlf b (W.drop (f + k + 1)) else 0) := r1
        refine V_aload_n (pc := 14) X 1 dX9_run_14 rfl ?_
        refine V_iload_n (pc := 15) X 2 dX9_run_15 rfl ?_
        refine V_callS (pc := 16) X _ (m_waitingAt (e := e)) cw_X9_112 (Q.room (by decide) (by decide)) rfl (Nat.le_of_ble_eq_true rfl) rfl (by omega) dX9_run_16 (fun _ _ z => z.elim) ?_
        rintro v16 h16 ⟨rfl, e16⟩
        rw [e16]
        simp only [Option.toList_some, List.cons_append, List.nil_append]
        refine V_iload_n (pc := 19) X 3 dX9_run_19 rfl ?_
        refine V_iadd (pc := 20) X dX9_run_20 ?_
        rw [nI_add]
        refine V_iload_n (pc := 21) X 0 dX9_run_21 rfl ?_
        refine V_iadd (pc := 22) X dX9_run_22 ?_
        rw [nI_add]
        refine V_iconst (pc := 23) (v := 1) X dX9_run_23 (by decide) ?_
        show V _ _ _ _ _ _ (Value.int (nI 1) :: _)
        refine V_isub (pc := 24) X dX9_run_24 ?_
        rw [pk_sub (by omega)]
        refine V_iload_n (pc := 25) X 2 dX9_run_25 rfl ?_
        refine V_callS (pc := 26) X _ (m_waitingAt (e := e)) cw_X9_112 (Q.room (by decide) (by decide)) rfl (Nat.le_of_ble_eq_true rfl) rfl (by omega) dX9_run_26 (fun _ _ z => z.elim) ?_
        rintro v26 h26 ⟨rfl, e26⟩
        rw [e26]
        simp only [Option.toList_some, List.cons_append, List.nil_append]
        refine V_iload_n (pc := 29) X 3 dX9_run_29 rfl ?_
        refine V_iadd (pc := 30) X dX9_run_30 ?_
        rw [nI_add]
        refine V_iload_n (pc := 31) X 0 dX9_run_31 rfl ?_
        refine V_iadd (pc := 32) X dX9_run_32 ?_
        rw [nI_add]
        refine V_callV (pc := 33) X clk9 (by decide) mp.k _ (m_goesOn (i := 400 + 200 * e + f + k - 1) (j := 400 + 200 * e + f + k) mp (by omega) (by omega) (by have := hW (f + k - 1) a ha; rwa [show 400 + 200 * e + (f + k - 1) = 400 + 200 * e + f + k - 1 by omega] at this) (by have := hW (f + k) b hb; rwa [show 400 + 200 * e + (f + k) = 400 + 200 * e + f + k by omega] at this) x1 x3 (by omega) (by omega)) cw_X9_176 (Q.room (by decide) (by decide)) rfl (Nat.le_of_ble_eq_true rfl) rfl (by omega) dX9_run_33 (fun _ _ z => z.elim) ?_
        rintro v33 h33 ⟨rfl, e33⟩
        rw [e33]
        simp only [Option.toList_some, List.cons_append, List.nil_append]
        refine V_if_eq (pc := 36) X 45 dX9_run_36 (by decide) (fun c36 => ?_) (fun c36 => ?_)
        · have kg : ¬ gon a b = true := fun y => by rw [if_pos y] at c36; exact absurd c36 (by decide)
          rw [if_neg kg] at r2
          refine V_iload_n (pc := 45) X 0 dX9_run_45 rfl ?_
          refine V_iret (pc := 46) X Q rfl rfl dX9_run_46 ?_
          refine ⟨?_, rfl⟩
          first
          | (rw [r2]; rfl)
          | (rw [r1, List.drop_eq_nil_of_le (by omega)]; rfl)
        · have kg : gon a b = true := by
            by_cases y : gon a b = true
            · exact y
            · rw [if_neg y] at c36; exact absurd rfl c36
          rw [if_pos kg] at r2
          refine V_inc1 (pc := 39) X 0 [(3, .int _), (0, .ref _), (1, .int _), (2, .int _)] dX9_run_39 rfl (by decide) rfl ?_
          rw [nI_1]
          refine V_goto (pc := 42) X 2 dX9_run_42 (by decide) ?_
          exact ih (k + 1) (by omega) (by omega) (by omega) b (by rw [show f + (k + 1) - 1 = f + k by omega]; exact hb) (by rw [r2, show f + (k + 1) = f + k + 1 by omega]; omega)
  exact key (W.length + 1) 1 (by omega) (Nat.le_refl _) (by omega) a0 (by rw [Nat.add_sub_cancel]; exact ha0) (by rw [drop_at ha0]; rfl)
theorem m_forgets {E : EV} {h : AH} {q : Nat} {A : Nat → Nat} {F : MS'} (mp : MP h q A F) {tb : Nat → Nat × Nat} {e : Nat} {W : List SO} (he : e ≤ 1) (hW : SLs tb F (400 + 200 * e) W) (hN : F 911 e = nI W.length) (hl : W.length ≤ 200) : Ct E yX9_forgetsNothings cX9_forgetsNothings 4 none 2 0 [.ref q, .int (nI e)] h (fun v h1 => v = none ∧ ∃ F', MP h1 q A F' ∧ FM h h1 ∧ SLs tb F' (400 + 200 * e) (W.filter (fun o => o.1 ≠ 0)) ∧ F' 911 e = nI (W.filter (fun o => o.1 ≠ 0)).length ∧ (∀ k, ¬ (400 + 200 * e ≤ k ∧ k < 600 + 200 * e) → OS F' k = OS F k) ∧ ∀ x y, ¬ (901 ≤ x ∧ x ≤ 905) → ¬ (x = 911 ∧ y = e) → F' x y = F x y) noX := by
  refine Ct_of RX9 (by decide +kernel) rfl (Nat.le_of_ble_eq_true rfl) (fun Γ X nt Q hin => ?_)
  have gm := FM.refl h
  refine V_iconst (pc := 0) (v := 0) X dX9_forgetsNothings_0 (by decide) ?_
  show V _ _ _ _ _ _ (Value.int (nI 0) :: _)
  refine V_istore_n (pc := 1) X [(2, .int _), (0, .ref _), (1, .int _)] dX9_forgetsNothings_1 rfl (by decide) rfl ?_
  refine V_iconst (pc := 2) (v := 0) X dX9_forgetsNothings_2 (by decide) ?_
  show V _ _ _ _ _ _ (Value.int (nI 0) :: _)
  refine V_istore_n (pc := 3) X [(3, .int _), (2, .int _), (0, .ref _), (1, .int _)] dX9_forgetsNothings_3 rfl (by decide) rfl ?_
  have key : ∀ (n k : Nat), W.length - k < n → k ≤ W.length → ∀ (l : Nat), l = ((W.take k).filter (fun o => o.1 ≠ 0)).length → l ≤ k → ∀ (hr : AH) (Fz : MS'), MP hr q A Fz → FM h hr → KO5 F Fz → SLs tb Fz (400 + 200 * e) ((W.take k).filter (fun o => o.1 ≠ 0)) → (∀ j, ¬ (400 + 200 * e ≤ j ∧ j < 400 + 200 * e + l) → OS Fz j = OS F j) → V E Γ 0 hr 4 [(3, .int (nI k)), (2, .int (nI l)), (0, .ref q), (1, .int (nI e))] [] := by
    intro n
    induction n with
    | zero => exact fun k hn => absurd hn (Nat.not_lt_zero _)
    | succ n ih =>
      intro k hn hk l el hlk hr Fz mpr gmr r1 r2 r3
      refine V_iload_n (pc := 4) X 0 dX9_forgetsNothings_4 rfl ?_
      refine V_aload_n (pc := 5) X 2 dX9_forgetsNothings_5 rfl ?_
      refine V_get (pc := 6) X fl_X9_40 dX9_forgetsNothings_6 mpr.k (mpr.f 911) ?_
      refine V_iload_n (pc := 9) X 3 dX9_forgetsNothings_9 rfl ?_
      refine M_ald (pc := 10) X mpr ⟨by unfold isA; decide, by decide⟩ (by show _ < 2; omega) dX9_forgetsNothings_10 ?_
      rw [r1 911 e (by decide), hN]
      refine V_icmp_ge (pc := 11) X 56 dX9_forgetsNothings_11 (by decide) (fun c11 => ?_) (fun c11 => ?_)
      · have hie : ¬ k < W.length := fun y => nI_ge y (by omega) c11
        refine V_aload_n (pc := 56) X 2 dX9_forgetsNothings_56 rfl ?_
        refine V_get (pc := 57) X fl_X9_40 dX9_forgetsNothings_57 mpr.k (mpr.f 911) ?_
        refine V_iload_n (pc := 60) X 3 dX9_forgetsNothings_60 rfl ?_
        refine V_iload_n (pc := 61) X 1 dX9_forgetsNothings_61 rfl ?_
        refine M_ast (pc := 62) X mpr ⟨by unfold isA; decide, by decide⟩ (by show _ < 2; omega) dX9_forgetsNothings_62 (fun h62 mp62 fm62 => ?_)
        have gm62 := gmr.seq fm62
        refine V_vret (pc := 63) X Q rfl dX9_forgetsNothings_63 ?_
        have hkW : k = W.length := by omega
        subst hkW
        rw [List.take_length] at el r2
        refine ⟨rfl, _, mp62, gm62, fun j o hj => (r2 j o hj).os ?_, by rw [fu_s, el], fun j hj => ?_, fun x y hx hxy => ?_⟩
        · exact OS_of (fun i a b => fu_i (by omega))
        · rw [show OS (fu Fz 911 e (nI l)) j = OS Fz j from OS_of (fun i a b => fu_i (by omega))]
          exact r3 j (by omega)
        · rw [show fu Fz 911 e (nI l) x y = Fz x y from if_neg (fun u => hxy u)]
          exact r1 x y hx
      · have hlt : k < W.length := by
          rcases Nat.lt_or_ge (k) (W.length) with y | y
          · exact y
          · exact absurd (nI_le y (by omega)) c11
        obtain ⟨o, ho⟩ : ∃ o, W[k]? = some o := ⟨_, List.getElem?_eq_getElem hlt⟩
        have so : SL tb Fz (400 + 200 * e + k) o := (hW k o ho).os (r3 _ (by omega))
        have o2 := so.1
        have etk : W.take (k + 1) = W.take k ++ [o] := by rw [List.take_add_one, ho]; rfl
        refine V_aload_n (pc := 14) X 2 dX9_forgetsNothings_14 rfl ?_
        refine V_get (pc := 15) X fl_X9_7 dX9_forgetsNothings_15 mpr.k (mpr.f 901) ?_
        refine V_iload_n (pc := 18) X 3 dX9_forgetsNothings_18 rfl ?_
        refine V_callS (pc := 19) X _ (m_waitingAt (e := e)) cw_X9_112 (Q.room (by decide) (by decide)) rfl (Nat.le_of_ble_eq_true rfl) rfl (by omega) dX9_forgetsNothings_19 (fun _ _ z => z.elim) ?_
        rintro v19 h19 ⟨rfl, e19⟩
        rw [e19]
        simp only [Option.toList_some, List.cons_append, List.nil_append]
        refine V_iload_n (pc := 22) X 0 dX9_forgetsNothings_22 rfl ?_
        refine V_iadd (pc := 23) X dX9_forgetsNothings_23 ?_
        rw [nI_add]
        refine M_ald (pc := 24) X mpr ⟨by unfold isA; decide, by decide⟩ (by show _ < 1401; omega) dX9_forgetsNothings_24 ?_
        rw [so.2.1]
        refine V_if_ne (pc := 25) X 31 dX9_forgetsNothings_25 (by decide) (fun c25 => ?_) (fun c25 => ?_)
        · have k25 : o.1 ≠ 0 := fun y => c25 (by rw [y]; rfl)
          have efl : (W.take (k + 1)).filter (fun o => o.1 ≠ 0) = (W.take k).filter (fun o => o.1 ≠ 0) ++ [o] := by rw [etk, List.filter_append, List.filter_cons_of_pos (by simpa using k25)]; rfl
          refine V_aload_n (pc := 31) X 2 dX9_forgetsNothings_31 rfl ?_
          refine V_iload_n (pc := 32) X 3 dX9_forgetsNothings_32 rfl ?_
          refine V_callS (pc := 33) X _ (m_waitingAt (e := e)) cw_X9_112 (Q.room (by decide) (by decide)) rfl (Nat.le_of_ble_eq_true rfl) rfl (by omega) dX9_forgetsNothings_33 (fun _ _ z => z.elim) ?_
          rintro v33 h33 ⟨rfl, e33⟩
          rw [e33]
          simp only [Option.toList_some, List.cons_append, List.nil_append]
          refine V_iload_n (pc := 36) X 0 dX9_forgetsNothings_36 rfl ?_
          refine V_iadd (pc := 37) X dX9_forgetsNothings_37 ?_
          rw [nI_add]
          refine V_iload_n (pc := 38) X 3 dX9_forgetsNothings_38 rfl ?_
          refine V_callS (pc := 39) X _ (m_waitingAt (e := e)) cw_X9_112 (Q.room (by decide) (by decide)) rfl (Nat.le_of_ble_eq_true rfl) rfl (by omega) dX9_forgetsNothings_39 (fun _ _ z => z.elim) ?_
          rintro v39 h39 ⟨rfl, e39⟩
          rw [e39]
          simp only [Option.toList_some, List.cons_append, List.nil_append]
          refine V_iload_n (pc := 42) X 1 dX9_forgetsNothings_42 rfl ?_
          refine V_iadd (pc := 43) X dX9_forgetsNothings_43 ?_
          rw [nI_add]
          refine V_callV (pc := 44) X clk9 (by decide) mpr.k _ (m_copies mpr (i := 400 + 200 * e + k) (j := 400 + 200 * e + l) (by omega) (by omega)) cw_X9_119 (Q.room (by decide) (by decide)) rfl (Nat.le_of_ble_eq_true rfl) rfl (by omega) dX9_forgetsNothings_44 (fun _ _ z => z.elim) ?_
          rintro v44 h44 ⟨rfl, Fy, mpy, gmy, y1, y2⟩
          simp only [Option.toList_none, List.nil_append]
          refine V_inc1 (pc := 47) X 1 [(2, .int _), (3, .int _), (0, .ref _), (1, .int _)] dX9_forgetsNothings_47 rfl (by decide) rfl ?_
          rw [nI_1]
          refine V_inc1 (pc := 50) X 1 [(3, .int _), (2, .int _), (0, .ref _), (1, .int _)] dX9_forgetsNothings_50 rfl (by decide) rfl ?_
          rw [nI_1]
          refine V_goto (pc := 53) X 4 dX9_forgetsNothings_53 (by decide) ?_
          refine ih (k + 1) (by omega) (by omega) (l + 1) (by rw [efl, List.length_append, el]; rfl) (by omega) _ Fy mpy (gmr.seq gmy) (r1.seq y1) ?_ (fun j hj => ?_)
          · rw [efl]
            intro j b hb
            rcases Nat.lt_or_ge j l with u | u
            · rw [List.getElem?_append_left (by omega)] at hb
              exact (r2 j b hb).os (by rw [y2, if_neg (by omega)])
            · rw [List.getElem?_append_right (by omega)] at hb
              have ej : j - ((W.take k).filter (fun o => o.1 ≠ 0)).length = 0 := by
                have := (List.getElem?_eq_some_iff.mp hb).1
                simp only [List.length_cons, List.length_nil] at this
                omega
              rw [ej] at hb
              have eb : o = b := by simpa using hb
              rw [← eb]
              exact so.os (by rw [y2, if_pos (by omega)])
          · rw [y2, if_neg (by omega)]
            exact r3 j (by omega)
        · have k25 : o.1 = 0 := (nI_eq (b := 0) (by omega) (by decide)).mp c25
          have efl : (W.take (k + 1)).filter (fun o => o.1 ≠ 0) = (W.take k).filter (fun o => o.1 ≠ 0) := by rw [etk, List.filter_append, List.filter_cons_of_neg (by simpa using k25)]; simp
          refine V_goto (pc := 28) X 50 dX9_forgetsNothings_28 (by decide) ?_
          refine V_inc1 (pc := 50) X 0 [(3, .int _), (2, .int _), (0, .ref _), (1, .int _)] dX9_forgetsNothings_50 rfl (by decide) rfl ?_
          rw [nI_1]
          refine V_goto (pc := 53) X 4 dX9_forgetsNothings_53 (by decide) ?_
          refine ih (k + 1) (by omega) (by omega) l (by rw [efl]; exact el) (by omega) _ Fz mpr gmr r1 (by rw [efl]; exact r2) r3
  exact key (W.length + 1) 0 (by omega) (Nat.zero_le _) 0 rfl (Nat.le_refl _) _ F mp gm (KO5.refl F) (fun j o hj => by simp at hj) (fun _ _ => rfl)
