/-! THE MODEL: DELIVERING ALL -/
theorem dOne_zT {s t : SQ} (h : INV s) (hd : dOne s = some t) : zT t = zT s := by
  rcases dOne_w h hd with ⟨e, m, he, hm, rfl⟩ | ⟨e, m, he, hm, rfl⟩
  · rfl
  · rfl
theorem dOne_e {s : SQ} (hu : ∀ e, e < 2 → zU s e = []) (hd : ∀ e, e < 2 → (zH s)[eR (zE s e)]? = none) : dOne s = none := by
  unfold dOne
  rw [hu 0 (by decide), hu 1 (by decide), hd 0 (by decide), hd 1 (by decide)]
theorem dOne_u {s : SQ} {i : Nat} {g : MG} (hi : i < 2) (hu : ∀ e, e < i → zU s e = []) (hg : zU s i = [g]) : dOne s = some (sUp s i g) := by
  unfold dOne
  rcases (show i = 0 ∨ i = 1 by omega) with rfl | rfl
  · rw [hg]
  · rw [hu 0 (by decide), hg]
theorem dOne_d {s : SQ} {i : Nat} {g : MG} (hi : i < 2) (hu : ∀ e, e < 2 → zU s e = []) (hd : ∀ e, e < i → (zH s)[eR (zE s e)]? = none) (hg : (zH s)[eR (zE s i)]? = some g) : dOne s = some (sDn s i g) := by
  unfold dOne
  rcases (show i = 0 ∨ i = 1 by omega) with rfl | rfl
  · rw [hu 0 (by decide), hu 1 (by decide), hg]
  · rw [hu 0 (by decide), hu 1 (by decide), hd 0 (by decide), hg]
theorem y_deliversOne {E : EV} {h : AH} {q : Nat} {A : Nat → Nat} {F : MS'} {s : SQ} (mp : MP h q A F) (rm : RM (zT s) F s) (hI : INV s) (hT : TOs s)  : Ct E yX9_deliversOne cX9_deliversOne 2 (some .boolean) 5 0 [.ref q] h (fun v h1 => ∃ b : Nat, v = some (.int (nI b)) ∧ ((b = 1 ∧ ∃ t, dOne s = some t ∧ ∃ F', MP h1 q A F' ∧ FM h h1 ∧ RM (zT s) F' t ∧ F' 900 0 = F 900 0) ∨ (b = 0 ∧ dOne s = none ∧ h1 = h))) noX := by
  refine Ct_of RX9 (by decide +kernel) rfl (Nat.le_of_ble_eq_true rfl) (fun Γ X nt Q hin => ?_)
  have gm := FM.refl h
  have w := hI.ws
  have hHl := w.2.2.1.1
  refine V_iconst (pc := 0) (v := 0) X dX9_deliversOne_0 (by decide) ?_
  show V _ _ _ _ _ _ (Value.int (nI 0) :: _)
  refine V_istore_n (pc := 1) X [(1, .int _), (0, .ref _)] dX9_deliversOne_1 rfl (by decide) rfl ?_
  have key : ∀ (n i : Nat), 2 - i < n → i ≤ 2 → (∀ e, e < i → zU s e = []) → V E Γ 0 h 2 [(1, .int (nI i)), (0, .ref q)] [] := by
    intro n
    induction n with
    | zero => exact fun i hn => absurd hn (Nat.not_lt_zero _)
    | succ n ih =>
      intro i hn hi hz
      refine V_iload_n (pc := 2) X 0 dX9_deliversOne_2 rfl ?_
      refine V_iconst (pc := 3) (v := 2) X dX9_deliversOne_3 (by decide) ?_
      show V _ _ _ _ _ _ (Value.int (nI 2) :: _)
      refine V_icmp_ge (pc := 4) X 32 dX9_deliversOne_4 (by decide) (fun c4 => ?_) (fun c4 => ?_)
      · have hie : ¬ i < 2 := fun y => nI_ge y (by decide) c4
        have hz2 : ∀ e, e < 2 → zU s e = [] := fun e y => hz e (by omega)
        clear ih
        refine V_iconst (pc := 32) (v := 0) X dX9_deliversOne_32 (by decide) ?_
        show V _ _ _ _ _ _ (Value.int (nI 0) :: _)
        refine V_istore_n (pc := 33) X [(1, .int _), (0, .ref _)] dX9_deliversOne_33 rfl (by decide) rfl ?_
        have key2 : ∀ (n i : Nat), 2 - i < n → i ≤ 2 → (∀ e, e < i → (zH s)[eR (zE s e)]? = none) → V E Γ 0 h 34 [(1, .int (nI i)), (0, .ref q)] [] := by
          intro n
          induction n with
          | zero => exact fun i hn => absurd hn (Nat.not_lt_zero _)
          | succ n ih =>
            intro i hn hi hz
            refine V_iload_n (pc := 34) X 0 dX9_deliversOne_34 rfl ?_
            refine V_iconst (pc := 35) (v := 2) X dX9_deliversOne_35 (by decide) ?_
            show V _ _ _ _ _ _ (Value.int (nI 2) :: _)
            refine V_icmp_ge (pc := 36) X 69 dX9_deliversOne_36 (by decide) (fun c36 => ?_) (fun c36 => ?_)
            · have hie : ¬ i < 2 := fun y => nI_ge y (by decide) c36
              refine V_iconst (pc := 69) (v := 0) X dX9_deliversOne_69 (by decide) ?_
              show V _ _ _ _ _ _ (Value.int (nI 0) :: _)
              refine V_iret (pc := 70) X Q rfl rfl dX9_deliversOne_70 ?_
              exact ⟨0, rfl, Or.inr ⟨rfl, dOne_e hz2 (fun e y => hz e (by omega)), rfl⟩⟩
            · have hlt : i < 2 := by
                rcases Nat.lt_or_ge i 2 with y | y
                · exact y
                · exact absurd (nI_le (a := 2) y (by omega)) c36
              have he : i ≤ 1 := by omega
              have re := (rm.1 i he).1
              have ru := (rm.1 i he).2
              have hrv := (w.1 i he).2.2.2
              refine V_aload_n (pc := 39) X 1 dX9_deliversOne_39 rfl ?_
              refine V_get (pc := 40) X fl_X9_43 dX9_deliversOne_40 mp.k (mp.f 912) ?_
              refine V_iload_n (pc := 43) X 0 dX9_deliversOne_43 rfl ?_
              refine M_ald (pc := 44) X mp ⟨by unfold isA; decide, by decide⟩ (by show _ < 2; omega) dX9_deliversOne_44 ?_
              rw [re.2.2.2.2.2.2.2.1]
              refine V_aload_n (pc := 45) X 1 dX9_deliversOne_45 rfl ?_
              refine V_get (pc := 46) X fl_X9_169 dX9_deliversOne_46 mp.k (mp.s 927) ?_
              rw [rm.2.2.1.1]
              refine V_icmp_ne (pc := 49) X 55 dX9_deliversOne_49 (by decide) (fun c49 => ?_) (fun c49 => ?_)
              · have k49 : eR (zE s i) ≠ (zH s).length := fun y => c49 (by rw [y])
                obtain ⟨g, hg⟩ : ∃ g, (zH s)[eR (zE s i)]? = some g := ⟨_, List.getElem?_eq_getElem (by omega)⟩
                refine V_aload_n (pc := 55) X 1 dX9_deliversOne_55 rfl ?_
                refine V_iload_n (pc := 56) X 0 dX9_deliversOne_56 rfl ?_
                refine V_callV (pc := 57) X clk9 (by decide) mp.k _ (m_delivers mp rm hI he hg (hT.1 g (List.mem_of_getElem? hg))) cw_X9_189 (Q.room (by decide) (by decide)) rfl (Nat.le_of_ble_eq_true rfl) rfl (by omega) dX9_deliversOne_57 (fun _ _ z => z.elim) ?_
                rintro v57 h57 ⟨rfl, Fe, mpe, gme, r1, r3⟩
                simp only [Option.toList_some, List.cons_append, List.nil_append]
                refine V_pop (pc := 60) X dX9_deliversOne_60 rfl ?_
                refine V_iconst (pc := 61) (v := 1) X dX9_deliversOne_61 (by decide) ?_
                show V _ _ _ _ _ _ (Value.int (nI 1) :: _)
                refine V_iret (pc := 62) X Q rfl rfl dX9_deliversOne_62 ?_
                exact ⟨1, rfl, Or.inl ⟨rfl, _, dOne_d hlt hz2 hz hg, Fe, mpe, gme, r1, r3⟩⟩
              · have k49 : eR (zE s i) = (zH s).length := (nI_eq (by omega) (by omega)).mp c49
                refine V_goto (pc := 52) X 63 dX9_deliversOne_52 (by decide) ?_
                refine V_inc1 (pc := 63) X 0 [(1, .int _), (0, .ref _)] dX9_deliversOne_63 rfl (by decide) rfl ?_
                rw [nI_1]
                refine V_goto (pc := 66) X 34 dX9_deliversOne_66 (by decide) ?_
                refine ih (i + 1) (by omega) (by omega) (fun e y => ?_)
                by_cases u : e = i
                · rw [u]; exact List.getElem?_eq_none (by omega)
                · exact hz e (by omega)
        exact key2 3 0 (by decide) (by decide) (fun e y => absurd y (Nat.not_lt_zero _))
      · have hlt : i < 2 := by
          rcases Nat.lt_or_ge i 2 with y | y
          · exact y
          · exact absurd (nI_le (a := 2) y (by omega)) c4
        have he : i ≤ 1 := by omega
        have re := (rm.1 i he).1
        have ru := (rm.1 i he).2
        refine V_aload_n (pc := 7) X 1 dX9_deliversOne_7 rfl ?_
        refine V_get (pc := 8) X fl_X9_62 dX9_deliversOne_8 mp.k (mp.f 918) ?_
        refine V_iload_n (pc := 11) X 0 dX9_deliversOne_11 rfl ?_
        refine M_zld (pc := 12) X mp (by decide) (by omega) dX9_deliversOne_12 ?_
        rw [ru.1]
        refine V_if_ne (pc := 13) X 19 dX9_deliversOne_13 (by decide) (fun c13 => ?_) (fun c13 => ?_)
        · have k13 : zU s i ≠ [] := fun y => by rw [if_pos y] at c13; exact absurd rfl c13
          obtain ⟨g, l, hml⟩ : ∃ g l, zU s i = g :: l := by
            cases hz : zU s i with
            | nil => exact absurd hz k13
            | cons a l => exact ⟨a, l, rfl⟩
          have hm1 := up_one hI he hml
          refine V_aload_n (pc := 19) X 1 dX9_deliversOne_19 rfl ?_
          refine V_iload_n (pc := 20) X 0 dX9_deliversOne_20 rfl ?_
          refine V_callV (pc := 21) X clk9 (by decide) mp.k _ (m_enters mp rm hI he hm1 ((hT.2 i he).1 g (by rw [hm1]; exact List.mem_cons_self))) cw_X9_172 (Q.room (by decide) (by decide)) rfl (Nat.le_of_ble_eq_true rfl) rfl (by omega) dX9_deliversOne_21 (fun _ _ z => z.elim) ?_
          rintro v21 h21 ⟨rfl, Fe, mpe, gme, r1, r2, r3⟩
          simp only [Option.toList_none, List.nil_append]
          refine V_iconst (pc := 24) (v := 1) X dX9_deliversOne_24 (by decide) ?_
          show V _ _ _ _ _ _ (Value.int (nI 1) :: _)
          refine V_iret (pc := 25) X Q rfl rfl dX9_deliversOne_25 ?_
          exact ⟨1, rfl, Or.inl ⟨rfl, _, dOne_u hlt hz hm1, Fe, mpe, gme, r1, r3⟩⟩
        · have k13 : zU s i = [] := by
            by_cases y : zU s i = []
            · exact y
            · rw [if_neg y] at c13; exact absurd c13 (by decide)
          refine V_goto (pc := 16) X 26 dX9_deliversOne_16 (by decide) ?_
          refine V_inc1 (pc := 26) X 0 [(1, .int _), (0, .ref _)] dX9_deliversOne_26 rfl (by decide) rfl ?_
          rw [nI_1]
          refine V_goto (pc := 29) X 2 dX9_deliversOne_29 (by decide) ?_
          refine ih (i + 1) (by omega) (by omega) (fun e y => ?_)
          by_cases u : e = i
          · rw [u]; exact k13
          · exact hz e (by omega)
  exact key 3 0 (by decide) (by decide) (fun e y => absurd y (Nat.not_lt_zero _))
theorem y_deliverAll {E : EV} {h : AH} {q : Nat} {A : Nat → Nat} {F : MS'} {s : SQ} (mp : MP h q A F) (rm : RM (zT s) F s) (hI : INV s) (hT : TOs s)  : Ct E yX9_deliverAll cX9_deliverAll 2 (some .int) 6 0 [.ref q] h (fun v h1 => v = some (.int (nI (dAll s).1)) ∧ ∃ F', MP h1 q A F' ∧ FM h h1 ∧ RM (zT s) F' (dAll s).2 ∧ F' 900 0 = 0) noX := by
  refine Ct_of RX9 (by decide +kernel) rfl (Nat.le_of_ble_eq_true rfl) (fun Γ X nt Q hin => ?_)
  have gm := FM.refl h
  have w := hI.ws
  have hH := hI.hH
  refine V_aload_n (pc := 0) X 0 dX9_deliverAll_0 rfl ?_
  refine V_iconst (pc := 1) (v := 0) X dX9_deliverAll_1 (by decide) ?_
  show V _ _ _ _ _ _ (Value.int (nI 0) :: _)
  refine M_put (pc := 2) X mp (i := 900) (by unfold isS; decide) fl_X9_92 dX9_deliverAll_2 (fun h2 mp2 fm2 => ?_)
  have gm2 := gm.seq fm2
  have rm2 := rm.th w hH (nI 0)
  refine V_iconst (pc := 5) (v := 0) X dX9_deliverAll_5 (by decide) ?_
  show V _ _ _ _ _ _ (Value.int (nI 0) :: _)
  refine V_istore_n (pc := 6) X [(1, .int _), (0, .ref _)] dX9_deliverAll_6 rfl (by decide) rfl ?_
  have hI0 := hI
  have hT0 := hT
  clear hI hT
  have key : ∀ (n i : Nat) (si : SQ) (hr : AH) (Fz : MS'), mu si < n → INV si → TOs si → zT si = zT s → MP hr q A Fz → FM h hr → RM (zT si) Fz si → Fz 900 0 = 0 → dAll s = (i + (dAll si).1, (dAll si).2) → i + mu si ≤ 2000 → V E Γ 0 hr 7 [(1, .int (nI i)), (0, .ref q)] [] := by
    intro n
    induction n with
    | zero => exact fun i si hr Fz hn => absurd hn (Nat.not_lt_zero _)
    | succ n ih =>
      intro i si hr Fz hn hI hT hzt mpr gmr rmr r9 hda hil
      refine V_aload_n (pc := 7) X 1 dX9_deliverAll_7 rfl ?_
      refine V_callV (pc := 8) X clk9 (by decide) mpr.k _ (y_deliversOne mpr rmr hI hT) cw_X9_192 (Q.room (by decide) (by decide)) rfl (Nat.le_of_ble_eq_true rfl) rfl (by omega) dX9_deliverAll_8 (fun _ _ z => z.elim) ?_
      rintro v8 h8 ⟨b, rfl, res⟩
      simp only [Option.toList_some, List.cons_append, List.nil_append]
      refine V_if_eq (pc := 11) X 20 dX9_deliverAll_11 (by decide) (fun c11 => ?_) (fun c11 => ?_)
      · have k11 : dOne si = none ∧ h8 = hr := by
          rcases res with ⟨rfl, -⟩ | ⟨-, a, c⟩
          · exact absurd c11 (by decide)
          · exact ⟨a, c⟩
        obtain ⟨hd, rfl⟩ := k11
        have da := dAll_n hd
        have e1 : dAll s = (i, si) := by rw [hda, da]; rfl
        refine V_iload_n (pc := 20) X 0 dX9_deliverAll_20 rfl ?_
        refine V_iret (pc := 21) X Q rfl rfl dX9_deliverAll_21 ?_
        rw [e1]
        rw [hzt] at rmr
        exact ⟨rfl, Fz, mpr, gmr, rmr, r9⟩
      · have k11 : ∃ t, dOne si = some t ∧ ∃ F', MP h8 q A F' ∧ FM hr h8 ∧ RM (zT si) F' t ∧ F' 900 0 = Fz 900 0 := by
          rcases res with ⟨-, z⟩ | ⟨rfl, -⟩
          · exact z
          · exact absurd rfl c11
        obtain ⟨t, hd, Fe, mpe, gme, r1, r3⟩ := k11
        obtain ⟨ht, hmt, -⟩ := dOne_ok hI hd
        have da := dAll_s hI hd
        have ezt := dOne_zT hI hd
        refine V_inc1 (pc := 14) X 0 [(1, .int _), (0, .ref _)] dX9_deliverAll_14 rfl (by decide) rfl ?_
        rw [nI_1]
        refine V_goto (pc := 17) X 7 dX9_deliverAll_17 (by decide) ?_
        exact ih (i + 1) t h8 Fe (by omega) ht (dOne_T hT hI hd) (ezt.trans hzt) mpe (gmr.seq gme) (by rw [ezt]; exact r1) (r3.trans r9) (by rw [hda, da]; simp only [Nat.add_assoc, Nat.add_comm 1]) (by omega)
  exact key (mu s + 1) 0 s _ _ (by omega) hI0 hT0 rfl mp2 gm2 rm2 fu_s (by rw [Nat.zero_add]) (by have := mu_le hI0; omega)
