/-! THE MODEL: DELIVERIES -/
/-- insertions' makers own their letters, everywhere -/
def TOs (s : SQ) : Prop := (∀ m ∈ zH s, ∀ o ∈ m.2.2, oT (zT s) o) ∧ ∀ e, e ≤ 1 → (∀ m ∈ zU s e, ∀ o ∈ m.2.2, oT (zT s) o) ∧ ∀ o ∈ eS (zE s e) ++ eW (zE s e), oT (zT s) o
theorem TOs.up {s : SQ} (h : TOs s) (hI : INV s) {e : Nat} (he : e ≤ 1) {m : MG} (hm : zU s e = [m]) : TOs (sUp s e m) := by
  have hmm : m ∈ zU s e := by rw [hm]; exact List.mem_cons_self
  have wg := (hI.ws.1 e he).2.2.1 m hmm
  refine ⟨fun a ha => ?_, fun i hi => ⟨fun a ha => ?_, (h.2 i hi).2⟩⟩
  · rcases List.mem_append.mp (show a ∈ zH s ++ [(m.1, m.2.1, entR m.2.2 ((zH s).drop m.2.1))] from ha) with u | u
    · exact h.1 a u
    · rw [List.mem_singleton.mp u]
      intro o ho
      have ho : o ∈ entR m.2.2 ((zH s).drop m.2.1) := ho
      rw [entR_flat] at ho
      exact (trl_T _ _ (fun b hb => ⟨(h.2 e he).1 m hmm b hb, (wg.2.2.2 b hb).1⟩) o ho).1
  · have ha : a ∈ zu s.2.1 e [] i := ha
    by_cases ei : i = e
    · subst ei; rw [zu_s] at ha; exact absurd ha List.not_mem_nil
    · rw [zu_n ei] at ha; exact (h.2 i hi).1 a ha
theorem fols_T {tb : Nat → Nat × Nat} : ∀ (Q : List SO) (x : EQ), (∀ o ∈ Q, oT tb o ∧ o.1 ≤ 2) → (∀ o ∈ eS x ++ eW x, oT tb o ∧ o.1 ≤ 2) → ∀ o ∈ eS (fols x Q) ++ eW (fols x Q), oT tb o ∧ o.1 ≤ 2
  | [], _, _, h => h
  | b :: Q, x, hQ, h => by
    rw [fols_cons]
    refine fols_T Q (fol x b) (fun o ho => hQ o (List.mem_cons_of_mem _ ho)) ?_
    have e1 : eS (fol x b) = crs (eS x) b := by unfold fol; dsimp only; split <;> rfl
    have e2 : eW (fol x b) = crs (eW x) (crp (eS x) b) := by unfold fol; dsimp only; split <;> rfl
    rw [e1, e2, ← crs_app]
    intro o ho
    refine (trl_T [b] (eS x ++ eW x) h o ?_)
    exact ho
theorem TOs.dn {s : SQ} (h : TOs s) (hI : INV s) {e : Nat} (he : e ≤ 1) {m : MG} (hm : (zH s)[eR (zE s e)]? = some m) : TOs (sDn s e m) := by
  have w := hI.ws
  have hmH := List.mem_of_getElem? hm
  have ezs : zE (sDn s e m) e = gte e m.1 m.2.2 (zE s e) := zu_s
  have eUs : zU (sDn s e m) e = (if dnQ s e m = [] then zU s e else zU s e ++ [(e, eR (zE s e) + 1, dnQ s e m)]) := zu_s
  have hSW := (h.2 e he).2
  refine ⟨h.1, fun i hi => ?_⟩
  by_cases ei : i = e
  · subst ei
    rw [ezs, eUs]
    by_cases hne : m.1 = i
    · have eg : gte i m.1 m.2.2 (zE s i) = sru (rvs (zE s i)) := by unfold gte; rw [if_pos hne]
      have eQ : dnQ s i m = (eW (zE s i)).take (rln (eW (zE s i))) := by unfold dnQ; rw [if_pos hne]
      rw [eg, eQ]
      refine ⟨fun a ha => ?_, fun o ho => ?_⟩
      · split at ha
        · exact (h.2 i hi).1 a ha
        · rcases List.mem_append.mp ha with u | u
          · exact (h.2 i hi).1 a u
          · rw [List.mem_singleton.mp u]
            exact fun o ho => hSW o (List.mem_append_right _ (List.mem_of_mem_take ho))
      · have : eS (sru (rvs (zE s i))) ++ eW (sru (rvs (zE s i))) = eW (zE s i) := List.take_append_drop _ _
        rw [this] at ho
        exact hSW o (List.mem_append_right _ ho)
    · have eg : gte i m.1 m.2.2 (zE s i) = drn (fols (rvs (zE s i)) m.2.2) := by unfold gte; rw [if_neg hne]
      have eQ : dnQ s i m = [] := by unfold dnQ; rw [if_neg hne]
      rw [eg, eQ, if_pos rfl]
      refine ⟨(h.2 i hi).1, fun o ho => ?_⟩
      have ho : o ∈ eS (fols (rvs (zE s i)) m.2.2) ++ (eW (fols (rvs (zE s i)) m.2.2)).filter (fun o => o.1 ≠ 0) := ho
      have ho2 : o ∈ eS (fols (rvs (zE s i)) m.2.2) ++ eW (fols (rvs (zE s i)) m.2.2) := by
        rcases List.mem_append.mp ho with u | u
        · exact List.mem_append_left _ u
        · exact List.mem_append_right _ ((List.mem_filter.mp u).1)
      refine (fols_T m.2.2 (rvs (zE s i)) (fun b hb => ⟨h.1 m hmH b hb, ((w.2.2.1.2 m hmH).2.2.2 b hb).1⟩) (fun b hb => ⟨hSW b hb, ?_⟩) o ho2).1
      rcases List.mem_append.mp (show b ∈ eS (zE s i) ++ eW (zE s i) from hb) with u | u
      · exact ((w.1 i hi).1.2.1.2 b u).1
      · exact ((w.1 i hi).1.2.2.1.2 b u).1
  · rw [show zE (sDn s e m) i = zE s i from zE_n _ _ ei, show zU (sDn s e m) i = zU s i from zU_n _ _ ei]
    exact h.2 i hi
theorem dOne_T {s t : SQ} (h : TOs s) (hI : INV s) (hd : dOne s = some t) : TOs t := by
  rcases dOne_w hI hd with ⟨e, m, he, hm, rfl⟩ | ⟨e, m, he, hm, rfl⟩
  · exact h.up hI he hm
  · exact h.dn hI he hm
theorem y_deliverUp {E : EV} {h : AH} {q : Nat} {A : Nat → Nat} {F : MS'} {s : SQ} (mp : MP h q A F) (rm : RM (zT s) F s) (hI : INV s) (hT : TOs s) {x : Int32} : Ct E yX9_deliverUp cX9_deliverUp 2 (some .int) 5 0 [.ref q, .int x] h (fun v h1 => (∃ (e : Nat) (m : MG), e ≤ 1 ∧ x = nI e ∧ zU s e = [m] ∧ v = some (.int (nI m.2.2.length)) ∧ MR h h1 q A (sUp s e m) 0) ∨ (¬ (x = 0 ∨ x = 1) ∧ (∃ u : Int32, v = some (.int u)) ∧ MR h h1 q A s 1) ∨ (∃ e : Nat, e ≤ 1 ∧ x = nI e ∧ zU s e = [] ∧ (∃ u : Int32, v = some (.int u)) ∧ MR h h1 q A s 2)) noX := by
  refine Ct_of RX9 (by decide +kernel) rfl (Nat.le_of_ble_eq_true rfl) (fun Γ X nt Q hin => ?_)
  have gm := FM.refl h
  have w := hI.ws
  have hH := hI.hH
  refine V_aload_n (pc := 0) X 0 dX9_deliverUp_0 rfl ?_
  refine V_iconst (pc := 1) (v := 0) X dX9_deliverUp_1 (by decide) ?_
  show V _ _ _ _ _ _ (Value.int (nI 0) :: _)
  refine M_put (pc := 2) X mp (i := 900) (by unfold isS; decide) fl_X9_92 dX9_deliverUp_2 (fun h2 mp2 fm2 => ?_)
  have gm2 := gm.seq fm2
  have rm2 := rm.th w hH (nI 0)
  refine V_iload_n (pc := 5) X 1 dX9_deliverUp_5 rfl ?_
  refine V_callS (pc := 6) X _ m_isEnd cw_X9_140 (Q.room (by decide) (by decide)) rfl (Nat.le_of_ble_eq_true rfl) rfl (by omega) dX9_deliverUp_6 (fun _ _ z => z.elim) ?_
  rintro v6 h6 ⟨rfl, e6⟩
  rw [e6]
  simp only [Option.toList_some, List.cons_append, List.nil_append]
  refine V_if_ne (pc := 9) X 18 dX9_deliverUp_9 (by decide) (fun c9 => ?_) (fun c9 => ?_)
  · have ke : x = 0 ∨ x = 1 := by
      by_cases y : 0 ≤ x ∧ x ≤ 1
      · exact end_iff.mp y
      · rw [if_neg y] at c9; exact absurd rfl c9
    obtain ⟨e, he, rfl⟩ := eq01 ke
    have re := (rm2.1 e he).1
    have ru := (rm2.1 e he).2
    have hx := (w.1 e he).1.1.1
    refine V_aload_n (pc := 18) X 0 dX9_deliverUp_18 rfl ?_
    refine V_get (pc := 19) X fl_X9_62 dX9_deliverUp_19 mp2.k (mp2.f 918) ?_
    refine V_iload_n (pc := 22) X 1 dX9_deliverUp_22 rfl ?_
    refine M_zld (pc := 23) X mp2 (by decide) (by omega) dX9_deliverUp_23 ?_
    rw [ru.1]
    refine V_if_ne (pc := 24) X 33 dX9_deliverUp_24 (by decide) (fun c24 => ?_) (fun c24 => ?_)
    · have k24 : zU s e ≠ [] := fun y => by rw [if_pos y] at c24; exact absurd rfl c24
      obtain ⟨m, l, hml⟩ : ∃ m l, zU s e = m :: l := by
        cases hz : zU s e with
        | nil => exact absurd hz k24
        | cons a l => exact ⟨a, l, rfl⟩
      have hm1 := up_one hI he hml
      refine V_aload_n (pc := 33) X 0 dX9_deliverUp_33 rfl ?_
      refine V_iload_n (pc := 34) X 1 dX9_deliverUp_34 rfl ?_
      refine V_callV (pc := 35) X clk9 (by decide) mp2.k _ (m_enters mp2 rm2 hI he hm1 ((hT.2 e he).1 m (by rw [hm1]; exact List.mem_cons_self))) cw_X9_172 (Q.room (by decide) (by decide)) rfl (Nat.le_of_ble_eq_true rfl) rfl (by omega) dX9_deliverUp_35 (fun _ _ z => z.elim) ?_
      rintro v35 h35 ⟨rfl, Fe, mpe, gme, r1, r2, r3⟩
      simp only [Option.toList_none, List.nil_append]
      refine V_aload_n (pc := 38) X 0 dX9_deliverUp_38 rfl ?_
      refine V_get (pc := 39) X fl_X9_52 dX9_deliverUp_39 mpe.k (mpe.f 915) ?_
      refine V_iload_n (pc := 42) X 1 dX9_deliverUp_42 rfl ?_
      refine M_ald (pc := 43) X mpe ⟨by unfold isA; decide, by decide⟩ (by show _ < 2; omega) dX9_deliverUp_43 ?_
      rw [r2]
      refine V_iret (pc := 44) X Q rfl rfl dX9_deliverUp_44 ?_
      exact Or.inl ⟨e, m, he, rfl, hm1, rfl, Fe, mpe, gm2.seq gme, r1, r3.trans fu_s⟩
    · have k24 : zU s e = [] := by
        by_cases y : zU s e = []
        · exact y
        · rw [if_neg y] at c24; exact absurd c24 (by decide)
      refine V_aload_n (pc := 27) X 0 dX9_deliverUp_27 rfl ?_
      refine V_iconst (pc := 28) (v := 2) X dX9_deliverUp_28 (by decide) ?_
      show V _ _ _ _ _ _ (Value.int (nI 2) :: _)
      refine V_callV (pc := 29) X clk9 (by decide) mp2.k _ (m_fails mp2 (c := nI 2)) cw_X9_144 (Q.room (by decide) (by decide)) rfl (Nat.le_of_ble_eq_true rfl) rfl (by omega) dX9_deliverUp_29 (fun _ _ z => z.elim) ?_
      rintro v29 h29 ⟨rfl, mp9, fm9⟩
      simp only [Option.toList_some, List.cons_append, List.nil_append]
      refine V_iret (pc := 32) X Q rfl rfl dX9_deliverUp_32 ?_
      exact Or.inr (Or.inr ⟨e, he, rfl, k24, ⟨_, rfl⟩, _, mp9, gm2.seq fm9, rm2.th w hH (nI 2), fu_s⟩)
  · have ke : ¬ (x = 0 ∨ x = 1) := fun y => by rw [if_pos (end_iff.mpr y)] at c9; exact absurd c9 (by decide)
    refine V_aload_n (pc := 12) X 0 dX9_deliverUp_12 rfl ?_
    refine V_iconst (pc := 13) (v := 1) X dX9_deliverUp_13 (by decide) ?_
    show V _ _ _ _ _ _ (Value.int (nI 1) :: _)
    refine V_callV (pc := 14) X clk9 (by decide) mp2.k _ (m_fails mp2 (c := nI 1)) cw_X9_144 (Q.room (by decide) (by decide)) rfl (Nat.le_of_ble_eq_true rfl) rfl (by omega) dX9_deliverUp_14 (fun _ _ z => z.elim) ?_
    rintro v23 h23 ⟨rfl, mp9, fm9⟩
    simp only [Option.toList_some, List.cons_append, List.nil_append]
    refine V_iret (pc := 17) X Q rfl rfl dX9_deliverUp_17 ?_
    exact Or.inr (Or.inl ⟨ke, ⟨_, rfl⟩, _, mp9, gm2.seq fm9, rm2.th w hH (nI 1), fu_s⟩)
theorem y_deliverDown {E : EV} {h : AH} {q : Nat} {A : Nat → Nat} {F : MS'} {s : SQ} (mp : MP h q A F) (rm : RM (zT s) F s) (hI : INV s) (hT : TOs s) {x : Int32} : Ct E yX9_deliverDown cX9_deliverDown 2 (some .char) 5 0 [.ref q, .int x] h (fun v h1 => (∃ (e : Nat) (m : MG), e ≤ 1 ∧ x = nI e ∧ (zH s)[eR (zE s e)]? = some m ∧ v = some (.int (if m.1 = e then 97 else 111)) ∧ MR h h1 q A (sDn s e m) 0) ∨ (¬ (x = 0 ∨ x = 1) ∧ (∃ u : Int32, v = some (.int u)) ∧ MR h h1 q A s 1) ∨ (∃ e : Nat, e ≤ 1 ∧ x = nI e ∧ (zH s).length ≤ eR (zE s e) ∧ (∃ u : Int32, v = some (.int u)) ∧ MR h h1 q A s 2)) noX := by
  refine Ct_of RX9 (by decide +kernel) rfl (Nat.le_of_ble_eq_true rfl) (fun Γ X nt Q hin => ?_)
  have gm := FM.refl h
  have w := hI.ws
  have hH := hI.hH
  refine V_aload_n (pc := 0) X 0 dX9_deliverDown_0 rfl ?_
  refine V_iconst (pc := 1) (v := 0) X dX9_deliverDown_1 (by decide) ?_
  show V _ _ _ _ _ _ (Value.int (nI 0) :: _)
  refine M_put (pc := 2) X mp (i := 900) (by unfold isS; decide) fl_X9_92 dX9_deliverDown_2 (fun h2 mp2 fm2 => ?_)
  have gm2 := gm.seq fm2
  have rm2 := rm.th w hH (nI 0)
  refine V_iload_n (pc := 5) X 1 dX9_deliverDown_5 rfl ?_
  refine V_callS (pc := 6) X _ m_isEnd cw_X9_140 (Q.room (by decide) (by decide)) rfl (Nat.le_of_ble_eq_true rfl) rfl (by omega) dX9_deliverDown_6 (fun _ _ z => z.elim) ?_
  rintro v6 h6 ⟨rfl, e6⟩
  rw [e6]
  simp only [Option.toList_some, List.cons_append, List.nil_append]
  refine V_if_ne (pc := 9) X 19 dX9_deliverDown_9 (by decide) (fun c9 => ?_) (fun c9 => ?_)
  · have ke : x = 0 ∨ x = 1 := by
      by_cases y : 0 ≤ x ∧ x ≤ 1
      · exact end_iff.mp y
      · rw [if_neg y] at c9; exact absurd rfl c9
    obtain ⟨e, he, rfl⟩ := eq01 ke
    have re := (rm2.1 e he).1
    have ru := (rm2.1 e he).2
    have hx := (w.1 e he).1.1.1
    have hrv := (w.1 e he).2.2.2
    have hHl := w.2.2.1.1
    refine V_aload_n (pc := 19) X 0 dX9_deliverDown_19 rfl ?_
    refine V_get (pc := 20) X fl_X9_43 dX9_deliverDown_20 mp2.k (mp2.f 912) ?_
    refine V_iload_n (pc := 23) X 1 dX9_deliverDown_23 rfl ?_
    refine M_ald (pc := 24) X mp2 ⟨by unfold isA; decide, by decide⟩ (by show _ < 2; omega) dX9_deliverDown_24 ?_
    rw [re.2.2.2.2.2.2.2.1]
    refine V_aload_n (pc := 25) X 0 dX9_deliverDown_25 rfl ?_
    refine V_get (pc := 26) X fl_X9_169 dX9_deliverDown_26 mp2.k (mp2.s 927) ?_
    rw [rm2.2.2.1.1]
    refine V_icmp_ne (pc := 29) X 40 dX9_deliverDown_29 (by decide) (fun c29 => ?_) (fun c29 => ?_)
    · have k29 : eR (zE s e) ≠ (zH s).length := fun y => c29 (by rw [y])
      obtain ⟨g, hg⟩ : ∃ g, (zH s)[eR (zE s e)]? = some g := ⟨_, List.getElem?_eq_getElem (by omega)⟩
      refine V_aload_n (pc := 40) X 0 dX9_deliverDown_40 rfl ?_
      refine V_iload_n (pc := 41) X 1 dX9_deliverDown_41 rfl ?_
      refine V_callV (pc := 42) X clk9 (by decide) mp2.k _ (m_delivers mp2 rm2 hI he hg (hT.1 g (List.mem_of_getElem? hg))) cw_X9_189 (Q.room (by decide) (by decide)) rfl (Nat.le_of_ble_eq_true rfl) rfl (by omega) dX9_deliverDown_42 (fun _ _ z => z.elim) ?_
      rintro v42 h42 ⟨rfl, Fe, mpe, gme, r1, r3⟩
      simp only [Option.toList_some, List.cons_append, List.nil_append]
      refine V_i2c (pc := 45) X dX9_deliverDown_45 ?_
      refine V_iret (pc := 46) X Q rfl (chr_any _) dX9_deliverDown_46 ?_
      first
      | exact Or.inl ⟨e, g, he, rfl, hg, by split <;> rfl, Fe, mpe, gm2.seq gme, r1, r3.trans fu_s⟩
      | exact Or.inr (Or.inr ⟨e, he, rfl, by omega, ⟨_, rfl⟩, _, mp9, gm2.seq fm9, rm2.th w hH (nI 2), fu_s⟩)
    · have k29 : eR (zE s e) = (zH s).length := (nI_eq (by omega) (by omega)).mp c29
      refine V_aload_n (pc := 32) X 0 dX9_deliverDown_32 rfl ?_
      refine V_iconst (pc := 33) (v := 2) X dX9_deliverDown_33 (by decide) ?_
      show V _ _ _ _ _ _ (Value.int (nI 2) :: _)
      refine V_callV (pc := 34) X clk9 (by decide) mp2.k _ (m_fails mp2 (c := nI 2)) cw_X9_144 (Q.room (by decide) (by decide)) rfl (Nat.le_of_ble_eq_true rfl) rfl (by omega) dX9_deliverDown_34 (fun _ _ z => z.elim) ?_
      rintro v34 h34 ⟨rfl, mp9, fm9⟩
      simp only [Option.toList_some, List.cons_append, List.nil_append]
      refine V_goto (pc := 37) X 45 dX9_deliverDown_37 (by decide) ?_
      refine V_i2c (pc := 45) X dX9_deliverDown_45 ?_
      refine V_iret (pc := 46) X Q rfl (chr_any _) dX9_deliverDown_46 ?_
      first
      | exact Or.inl ⟨e, g, he, rfl, hg, by split <;> rfl, Fe, mpe, gm2.seq gme, r1, r3.trans fu_s⟩
      | exact Or.inr (Or.inr ⟨e, he, rfl, by omega, ⟨_, rfl⟩, _, mp9, gm2.seq fm9, rm2.th w hH (nI 2), fu_s⟩)
  · have ke : ¬ (x = 0 ∨ x = 1) := fun y => by rw [if_pos (end_iff.mpr y)] at c9; exact absurd c9 (by decide)
    refine V_aload_n (pc := 12) X 0 dX9_deliverDown_12 rfl ?_
    refine V_iconst (pc := 13) (v := 1) X dX9_deliverDown_13 (by decide) ?_
    show V _ _ _ _ _ _ (Value.int (nI 1) :: _)
    refine V_callV (pc := 14) X clk9 (by decide) mp2.k _ (m_fails mp2 (c := nI 1)) cw_X9_144 (Q.room (by decide) (by decide)) rfl (Nat.le_of_ble_eq_true rfl) rfl (by omega) dX9_deliverDown_14 (fun _ _ z => z.elim) ?_
    rintro v23 h23 ⟨rfl, mp9, fm9⟩
    simp only [Option.toList_some, List.cons_append, List.nil_append]
    refine V_i2c (pc := 17) X dX9_deliverDown_17 ?_
    refine V_iret (pc := 18) X Q rfl (chr_any _) dX9_deliverDown_18 ?_
    exact Or.inr (Or.inl ⟨ke, ⟨_, rfl⟩, _, mp9, gm2.seq fm9, rm2.th w hH (nI 1), fu_s⟩)
