/-! THE CALLS THAT DELIVER -/
theorem x_deliverUp {E : EV} {h : AH} {q : Nat} {G : GQ} {s : SQ} (z : RC h q G s) (w : WS' s) (hu : ∀ e, e ≤ 1 → ∀ m ∈ zU s e, upOK s m) {x : Int32} : Ct E yX8_deliverUp cX8_deliverUp 4 (some .int) 12 1210 [.ref q, .int x] h (fun v h1 => (∃ (e : Nat) (m : MG), e ≤ 1 ∧ x = nI e ∧ zU s e = [m] ∧ v = some (.int (nI m.2.2.length)) ∧ RC h1 q G (sUp s e m)) ∧ FC h h1) (fun N h1 => ((N = "java/lang/IndexOutOfBoundsException" ∧ ¬ (x = 0 ∨ x = 1)) ∨ (∃ e : Nat, e ≤ 1 ∧ x = nI e ∧ N = "java/util/NoSuchElementException" ∧ zU s e = [])) ∧ h1 = h) := by
  refine Ct_of RX8 (by decide +kernel) rfl (Nat.le_of_ble_eq_true rfl) (fun Γ X nt Q hin => ?_)
  refine V_aload_n (pc := 0) X 0 dX8_deliverUp_0 rfl ?_
  refine V_iload_n (pc := 1) X 1 dX8_deliverUp_1 rfl ?_
  refine V_callV (pc := 2) X clk8 (by decide) z.k _ (c_endN z) cw_X8_46 (Q.room (by decide) (by decide)) rfl (Nat.le_of_ble_eq_true rfl) rfl (by omega) dX8_deliverUp_2 (fun N h9 y => VX_out X Q nt ⟨Or.inl ⟨y.1, y.2.1⟩, y.2.2⟩) ?_
  rintro v2 h2 ⟨⟨e, he, rfl, rfl⟩, e2⟩
  rw [e2]
  simp only [Option.toList_some, List.cons_append, List.nil_append]
  obtain ⟨Hs, Us, y1, y2, y3, y4, y5, y6⟩ := z.2.2.2.1
  obtain ⟨a1, a2, a3, a4, a5⟩ := y3 e he
  have hU1 := (w.1 e he).2.1
  have hUl := a1.1
  have es := z.es he
  have cE := z.2.2.1
  refine V_astore_n (pc := 5) X [(2, .ref _), (0, .ref _), (1, .int _)] dX8_deliverUp_5 rfl (by decide) rfl ?_
  refine V_aload_n (pc := 6) X 0 dX8_deliverUp_6 rfl ?_
  refine V_get (pc := 7) X fl_X8_129 dX8_deliverUp_7 es.1 (es.f 4) ?_
  refine V_callL (pc := 10) X (Or.inl (es.l 4)) _ (c_isEmpty (es.l 4) (by rw [a2]; omega)) cw_X8_132 (Q.room (by decide) (by decide)) rfl (Nat.le_of_ble_eq_true rfl) rfl (by omega) dX8_deliverUp_10 (fun _ _ z => z.elim) ?_
  rintro v10 h10 ⟨rfl, e10⟩
  rw [e10, a2]
  simp only [Option.toList_some, List.cons_append, List.nil_append]
  refine V_if_eq (pc := 13) X 26 dX8_deliverUp_13 (by decide) (fun c13 => ?_) (fun c13 => ?_)
  · have hn0 : ¬ Us e = [] := fun y => by rw [if_pos y] at c13; exact absurd c13 (by decide)
    obtain ⟨m, hm⟩ : ∃ m, zU s e = [m] := by
      cases hz : zU s e with
      | nil => rw [hz] at hUl; exact absurd (List.length_eq_zero_iff.mp hUl) hn0
      | cons a l =>
        rw [hz] at hU1
        have : l = [] := List.length_eq_zero_iff.mp (by simp at hU1; simpa using hU1)
        rw [this]; exact ⟨a, rfl⟩
    obtain ⟨ml, hml⟩ : ∃ ml, Us e = [ml] := by
      rw [hm] at hUl
      cases hz : Us e with
      | nil => exact absurd hz hn0
      | cons a l =>
        rw [hz] at hUl
        have : l = [] := List.length_eq_zero_iff.mp (by simpa using hUl)
        rw [this]; exact ⟨a, rfl⟩
    have hms : MS G.1 h ml m.1 m.2.1 m.2.2 := a1.2 0 ml m (by rw [hml]; rfl) (by rw [hm]; rfl)
    have hmm : m ∈ zU s e := by rw [hm]; exact List.mem_cons_self
    obtain ⟨o1, o2, o3, o4, o5⟩ := hu e he m hmm
    have wm := (w.1 e he).2.2.1 m hmm
    unfold wM at wm
    have hHl := y2.1
    have hH200 := w.2.2.1.1
    have F1 : Fr (fun a => a = G.2.1 e 4) h (sL h (G.2.1 e 4) [] (qC h (G.2.1 e 4))) := Fr_sL rfl
    have n35 : ∀ t : Nat, 22 ≤ t → ∀ a, own h a = .ref t → ¬ a = G.2.1 e 4 := fun t ht a y u => by rw [u, es.o 4] at y; exact ref_ne (a := 20 + e) (b := t) (by omega) y
    have hml2 : ml ∉ Hs := (y5 e he).2 ml (by rw [hml]; exact List.mem_cons_self)
    have mo := hms.o
    refine V_aload_n (pc := 26) X 0 dX8_deliverUp_26 rfl ?_
    refine V_get (pc := 27) X fl_X8_129 dX8_deliverUp_27 es.1 (es.f 4) ?_
    refine V_iconst (pc := 30) (v := 0) X dX8_deliverUp_30 (by decide) ?_
    refine V_callL (pc := 31) X (Or.inl (es.l 4)) _ (c_remove (i := 0) (x := ml) (es.l 4) (by rw [a2, hml]; rfl) (fun y hy => by rw [a2, hml] at hy; rw [show y = ml by simpa using hy, hms.k]; omega)) cw_X8_138 (Q.room (by decide) (by decide)) rfl (Nat.le_of_ble_eq_true rfl) rfl (by omega) dX8_deliverUp_31 (fun _ _ z => z.elim) ?_
    rintro v31 h31 ⟨rfl, e31⟩
    rw [e31, a2, hml, show lDel [ml] 0 = [] from rfl]
    simp only [Option.toList_some, List.cons_append, List.nil_append]
    obtain ⟨h1, eh1⟩ : ∃ h1, h1 = sL h (G.2.1 e 4) [] (qC h (G.2.1 e 4)) := ⟨_, rfl⟩
    rw [← eh1] at F1 ⊢
    have m1 := hms.fr F1 (n35 35 (by decide) _ mo) (fun a => n35 _ (Nat.le_trans (show 22 ≤ 40 by decide) (Nat.le_add_right 40 ml)) a)
    have k1 := F1.K z.k (by decide)
    have n5 : ¬ q = G.2.1 e 4 := fun u => by have := z.k; rw [u, es.l 4] at this; exact absurd this (by decide)
    have c1 : CE G.1 h1 G.2.2.1 (zC s) := cE.fr F1 (fun i hi => n35 22 (by decide) _ (cE.2.2.2.2.2.2.2 i hi))
    refine V_cast (pc := 34) X clk5 (by decide) ck_X8_141 m1.k dX8_deliverUp_34 ?_
    refine V_astore_n (pc := 37) X [(3, .ref _), (2, .ref _), (0, .ref _), (1, .int _)] dX8_deliverUp_37 rfl (by decide) rfl ?_
    refine V_aload_n (pc := 38) X 2 dX8_deliverUp_38 rfl ?_
    refine V_get (pc := 39) X fl_X8_24 dX8_deliverUp_39 k1 (F1.F (by rw [z.k]; decide) n5 z.1.2.2.2.1) ?_
    refine V_aload_n (pc := 42) X 0 dX8_deliverUp_42 rfl ?_
    refine V_callV (pc := 43) X clk0 (by decide) c1.1 _ (c_enter c1 ((F1.L (by rw [cE.2.2.2.2.1]; decide) (n35 22 (by decide) _ (cE.2.2.2.2.2.2.2 2 (by decide)))).trans y1) (y2.fr F1 (n35 35 (by decide)) (fun m _ => n35 _ (Nat.le_trans (show 22 ≤ 40 by decide) (Nat.le_add_right 40 m)))) (by omega) m1 hml2 (by omega) (fun y hy => F1.K (z.km y hy) (by decide)) (fun y hy => w.2.1.2 y hy) o2 (fun x hx => ⟨(w.2.2.1.2 x hx).2.2.1, (w.2.2.1.2 x hx).2.2.2⟩) o3 o4 o5) cw_X8_143 (Q.room (by decide) (by decide)) rfl (Nat.le_of_ble_eq_true rfl) rfl (by omega) dX8_deliverUp_43 (fun _ _ z => z.elim) ?_
    rintro v43 h2 ⟨rfl, c2, L2, H2, F2⟩
    simp only [Option.toList_none, List.nil_append]
    refine V.less (b' := 202) (by omega) ?_
    have km2 : qK h2 q = 9 := F2.K k1 (by decide)
    have own5 : own h1 q = te 5 := F1.O (by rw [z.k]; decide) z.1.2.2.2.2.2.2.2
    have no5 : ¬ (own h1 q = te 2 ∨ own h1 q = .ref (40 + ml)) := fun u => u.elim (fun u => ref_ne (a := 25) (b := 22) (by decide) (own5.symm.trans u)) (fun u => ref_ne (a := 25) (b := 40 + ml) (by omega) (own5.symm.trans u))
    have fq : ∀ f v, qF h f q = v → qF h2 f q = v := fun f v y => F2.F (by rw [k1]; decide) no5 (F1.F (by rw [z.k]; decide) n5 y)
    have r2 : RC1 G.1 h2 G.2.1 (zE s) := RC1.fr (RC1.up z.2.1 he (F1.mono (fun _ _ y => Or.inl y))) F2 (fun i hi a y u => u.elim (fun u => ref_ne (a := 20 + i) (b := 22) (by omega) (y.symm.trans u)) (fun u => ref_ne (a := 20 + i) (b := 40 + ml) (by omega) (y.symm.trans u)))
    have E0 := (r2 0 (by decide)).1
    have E1 := (r2 1 (by decide)).1
    have dl : ∀ i, i ≤ 1 → qL h2 (G.2.1 i 5) = Hs.drop (eR (zE s i)) ∧ qC h2 (G.2.1 i 5) ≤ 301 := fun i hi => by
      have ei := z.es hi
      have hn : ¬ G.2.1 i 5 = G.2.1 e 4 := fun u => by
        by_cases eq : i = e
        · subst eq; exact ei.ne (by decide) (by decide) (by decide) (by decide) (by decide) u
        · have a := ei.o 5
          rw [u, es.o 4] at a
          exact ref_ne (a := 20 + e) (b := 20 + i) (by omega) a
      have o1 : own h1 (G.2.1 i 5) = te i := F1.O (ei.k 5) (ei.o 5)
      have kk : qK h1 (G.2.1 i 5) ≠ 0 := by rw [F1.K (ei.l 5) (by decide)]; decide
      have no : ¬ (own h1 (G.2.1 i 5) = te 2 ∨ own h1 (G.2.1 i 5) = .ref (40 + ml)) := fun u => u.elim (fun u => ref_ne (a := 20 + i) (b := 22) (by omega) (o1.symm.trans u)) (fun u => ref_ne (a := 20 + i) (b := 40 + ml) (by omega) (o1.symm.trans u))
      obtain ⟨-, -, -, b4, b5⟩ := y3 i hi
      exact ⟨(F2.L kk no).trans ((F1.L (ei.k 5) hn).trans b4), by rw [F2.C kk no, F1.C (ei.k 5) hn]; exact b5⟩
    obtain ⟨d01, d02⟩ := dl 0 (by decide)
    obtain ⟨d11, d12⟩ := dl 1 (by decide)
    have dlen : ∀ i, (Hs.drop i).length ≤ 200 := fun i => by rw [List.length_drop]; omega
    have dk : ∀ i, ∀ y ∈ Hs.drop i, qK h2 y = 6 := fun i y hy => (H2.k (List.mem_append_left _ (List.mem_of_mem_drop hy))).1
    have mk2 : qK h2 ml = 6 := (H2.k (List.mem_append_right _ List.mem_cons_self)).1
    refine V_aload_n (pc := 46) X 2 dX8_deliverUp_46 rfl ?_
    refine V_get (pc := 47) X fl_X8_12 dX8_deliverUp_47 km2 (fq _ _ z.1.2.1) ?_
    refine V_get (pc := 50) X fl_X8_147 dX8_deliverUp_50 E0.1 (E0.f 5) ?_
    refine V_aload_n (pc := 53) X 0 dX8_deliverUp_53 rfl ?_
    refine V_callL (pc := 54) X (Or.inl (E0.l 5)) _ (c_add (x := ml) (E0.l 5) (by rw [mk2]; omega) (by omega) (fun y hy => by rw [d01] at hy; rw [dk _ y hy]; omega)) cw_X8_150 (Q.room (by decide) (by decide)) rfl (Nat.le_of_ble_eq_true rfl) rfl (by have := gcap_inc (n := (qL h2 (G.2.1 0 5)).length) (c := qC h2 (G.2.1 0 5)) (by rw [d01]; exact dlen _); omega) dX8_deliverUp_54 (fun _ _ z => z.elim) ?_
    rintro v54 h54 ⟨rfl, e54⟩
    simp only [Option.toList_some, List.cons_append, List.nil_append]
    refine V.less (b' := 101) (by have := gcap_inc (n := (qL h2 (G.2.1 0 5)).length) (c := qC h2 (G.2.1 0 5)) (by rw [d01]; exact dlen _); omega) ?_
    have F3 : Fr (fun a => a = G.2.1 0 5) h2 h54 := by rw [e54]; exact Fr_sL rfl
    have n05 : ¬ q = G.2.1 0 5 := fun u => by have := km2; rw [u, E0.l 5] at this; exact absurd this (by decide)
    have r3 : RC1 G.1 h54 G.2.1 (zE s) := r2.up (by decide) (F3.mono (fun _ _ y => Or.inr y))
    have E13 := (r3 1 (by decide)).1
    have ne15 : ¬ G.2.1 1 5 = G.2.1 0 5 := fun u => by
      have a := E1.o 5
      rw [u, E0.o 5] at a
      exact ref_ne (a := 20) (b := 21) (by decide) a
    have d31 := (F3.L (E1.k 5) ne15).trans d11
    have d32 : qC h54 (G.2.1 1 5) ≤ 301 := by rw [F3.C (E1.k 5) ne15]; exact d12
    refine V_pop (pc := 57) X dX8_deliverUp_57 rfl ?_
    refine V_aload_n (pc := 58) X 2 dX8_deliverUp_58 rfl ?_
    refine V_get (pc := 59) X fl_X8_18 dX8_deliverUp_59 (F3.K km2 (by decide)) (F3.F (by rw [km2]; decide) n05 (fq _ _ z.1.2.2.1)) ?_
    refine V_get (pc := 62) X fl_X8_147 dX8_deliverUp_62 E13.1 (E13.f 5) ?_
    refine V_aload_n (pc := 65) X 0 dX8_deliverUp_65 rfl ?_
    refine V_callL (pc := 66) X (Or.inl (E13.l 5)) _ (c_add (x := ml) (E13.l 5) (by rw [F3.K mk2 (by decide)]; omega) (by omega) (fun y hy => by rw [d31] at hy; rw [F3.K (dk _ y hy) (by decide)]; omega)) cw_X8_150 (Q.room (by decide) (by decide)) rfl (Nat.le_of_ble_eq_true rfl) rfl (by have := gcap_inc (n := (qL h54 (G.2.1 1 5)).length) (c := qC h54 (G.2.1 1 5)) (by rw [d31]; exact dlen _); omega) dX8_deliverUp_66 (fun _ _ z => z.elim) ?_
    rintro v66 h66 ⟨rfl, e66⟩
    simp only [Option.toList_some, List.cons_append, List.nil_append]
    obtain ⟨z6, fc⟩ := z.entered (h2 := h2) (m := m) (X := entR m.2.2 ((zH s).drop m.2.1)) he hH200 (fun i hi => (w.1 i hi).2.2.2) y1 y2 y3 y4 y5 y6 hml mo (by rw [← eh1]; exact F2) c2 L2 H2 e54 e66
    obtain ⟨Hs6, Us6, l6, g6, -⟩ := z6.2.2.2.1
    have em6 := (H2.fr F3 (fun a y u => by rw [u, E0.o 5] at y; exact ref_ne (a := 20) (b := 35) (by decide) y) (fun (m : Nat) _ a y u => by rw [u, E0.o 5] at y; exact ref_ne (a := 20) (b := 40 + m) (Nat.ne_of_lt (Nat.lt_of_lt_of_le (show 20 < 40 by decide) (Nat.le_add_right 40 m))) y)).fr (S := fun a => a = G.2.1 1 5) (h' := h66) (by rw [e66]; exact Fr_sL rfl) (fun a y u => by rw [u, E13.o 5] at y; exact ref_ne (a := 21) (b := 35) (by decide) y) (fun (m : Nat) _ a y u => by rw [u, E13.o 5] at y; exact ref_ne (a := 21) (b := 40 + m) (Nat.ne_of_lt (Nat.lt_of_lt_of_le (show 21 < 40 by decide) (Nat.le_add_right 40 m))) y)
    obtain ⟨ol, R, mh, mL, mC, mO, -⟩ := em6.2 Hs.length ml (m.1, m.2.1, entR m.2.2 ((zH s).drop m.2.1)) (by rw [List.getElem?_append_right (Nat.le_refl _), Nat.sub_self]; rfl) (by rw [hHl, List.getElem?_append_right (Nat.le_refl _), Nat.sub_self]; rfl)
    refine V_pop (pc := 69) X dX8_deliverUp_69 rfl ?_
    refine V_aload_n (pc := 70) X 0 dX8_deliverUp_70 rfl ?_
    refine V_get (pc := 71) X fl_X8_154 dX8_deliverUp_71 mh.1 mh.2.2.2.1 ?_
    refine V_callL (pc := 74) X (Or.inl mh.2.2.2.2.2.1) _ (c_size mh.2.2.2.2.2.1) cw_X8_102 (Q.room (by decide) (by decide)) rfl (Nat.le_of_ble_eq_true rfl) rfl (by omega) dX8_deliverUp_74 (fun _ _ z => z.elim) ?_
    rintro v74 h74 ⟨rfl, e74⟩
    rw [e74, mL, mO.1, entR_len]
    simp only [Option.toList_some, List.cons_append, List.nil_append]
    refine V_iret (pc := 77) X Q rfl rfl dX8_deliverUp_77 ?_
    exact ⟨⟨e, m, he, rfl, hm, rfl, z6⟩, fc⟩
  · have hn0 : Us e = [] := by
      by_cases y : Us e = []
      · exact y
      · rw [if_neg y] at c13; exact absurd rfl c13
    have hz0 : zU s e = [] := List.length_eq_zero_iff.mp (by rw [← hUl, hn0]; rfl)
    exact V_throwN (pc := 16) X Q nt tw_X8_93_136 dX8_deliverUp_16 dX8_deliverUp_19 dX8_deliverUp_20 dX8_deliverUp_22 dX8_deliverUp_25 (by decide) (by decide) (by omega) ⟨Or.inr ⟨e, he, rfl, rfl, hz0⟩, rfl⟩
theorem x_deliverDown {E : EV} {h : AH} {q : Nat} {G : GQ} {s : SQ} (z : RC h q G s) (w : WS' s) {B : Nat} {x : Int32} (hB : ∀ e, e ≤ 1 → x = nI e → ∀ m : MG, (zH s)[eR (zE s e)]? = some m → 1318 + 104 * m.2.2.length ≤ B) (hB0 : 6 ≤ B) (hd : ∀ e, e ≤ 1 → ∀ m : MG, (zH s)[eR (zE s e)]? = some m → ∀ i, i ≤ m.2.2.length → (i = 0 ∨ ¬ m.1 = e) → WE (fun x => x ∈ zL s) (fols (rvs (zE s e)) (m.2.2.take i))) : Ct E yX8_deliverDown cX8_deliverDown 4 (some .char) 13 B [.ref q, .int x] h (fun v h1 => (∃ (e : Nat) (m : MG), e ≤ 1 ∧ x = nI e ∧ (zH s)[eR (zE s e)]? = some m ∧ v = some (.int (if m.1 = e then 97 else 111)) ∧ RC h1 q G (sDn s e m)) ∧ FC h h1) (fun N h1 => ((N = "java/lang/IndexOutOfBoundsException" ∧ ¬ (x = 0 ∨ x = 1)) ∨ (∃ e : Nat, e ≤ 1 ∧ x = nI e ∧ N = "java/util/NoSuchElementException" ∧ (zH s).length ≤ eR (zE s e))) ∧ h1 = h) := by
  refine Ct_of RX8 (by decide +kernel) rfl (Nat.le_of_ble_eq_true rfl) (fun Γ X nt Q hin => ?_)
  refine V_aload_n (pc := 0) X 0 dX8_deliverDown_0 rfl ?_
  refine V_iload_n (pc := 1) X 1 dX8_deliverDown_1 rfl ?_
  refine V_callV (pc := 2) X clk8 (by decide) z.k _ (c_endN z) cw_X8_46 (Q.room (by decide) (by decide)) rfl (Nat.le_of_ble_eq_true rfl) rfl (by omega) dX8_deliverDown_2 (fun N h9 y => VX_out X Q nt ⟨Or.inl ⟨y.1, y.2.1⟩, y.2.2⟩) ?_
  rintro v2 h2 ⟨⟨e, he, rfl, rfl⟩, e2⟩
  rw [e2]
  simp only [Option.toList_some, List.cons_append, List.nil_append]
  obtain ⟨Hs, Us, y1, y2, y3, y4, y5, y6⟩ := z.2.2.2.1
  obtain ⟨a1, a2, a3, a4, a5⟩ := y3 e he
  have es := z.es he
  have hHl := y2.1
  have hH200 := w.2.2.1.1
  have hU1 := (w.1 e he).2.1
  have hUl := a1.1
  refine V_astore_n (pc := 5) X [(2, .ref _), (0, .ref _), (1, .int _)] dX8_deliverDown_5 rfl (by decide) rfl ?_
  refine V_aload_n (pc := 6) X 0 dX8_deliverDown_6 rfl ?_
  refine V_get (pc := 7) X fl_X8_147 dX8_deliverDown_7 es.1 (es.f 5) ?_
  refine V_callL (pc := 10) X (Or.inl (es.l 5)) _ (c_isEmpty (es.l 5) (by rw [a4, List.length_drop]; omega)) cw_X8_132 (Q.room (by decide) (by decide)) rfl (Nat.le_of_ble_eq_true rfl) rfl (by omega) dX8_deliverDown_10 (fun _ _ z => z.elim) ?_
  rintro v10 h10 ⟨rfl, e10⟩
  rw [e10, a4]
  simp only [Option.toList_some, List.cons_append, List.nil_append]
  refine V_if_eq (pc := 13) X 26 dX8_deliverDown_13 (by decide) (fun c13 => ?_) (fun c13 => ?_)
  · have hlt : eR (zE s e) < Hs.length := by
      rcases Nat.lt_or_ge (eR (zE s e)) Hs.length with y | y
      · exact y
      · rw [if_pos (List.drop_eq_nil_of_le y)] at c13; exact absurd c13 (by decide)
    obtain ⟨ml, m, hm1, hm2, hms⟩ := y2.at hlt
    have hdr : Hs.drop (eR (zE s e)) = ml :: Hs.drop (eR (zE s e) + 1) := drop_at hm1
    have hBm := hB e he rfl m hm2
    have wm := w.2.2.1.2 m (List.mem_of_getElem? hm2)
    unfold wM at wm
    have hk6 : ∀ y ∈ Hs, qK h y = 6 := fun y hy => (y2.k hy).1
    have F1 : Fr (fun a => a = G.2.1 e 5) h (sL h (G.2.1 e 5) (Hs.drop (eR (zE s e) + 1)) (qC h (G.2.1 e 5))) := Fr_sL rfl
    have n35 : ∀ t : Nat, 22 ≤ t → ∀ a, own h a = .ref t → ¬ a = G.2.1 e 5 := fun t ht a y u => by rw [u, es.o 5] at y; exact ref_ne (a := 20 + e) (b := t) (by omega) y
    have n45 : ¬ G.2.1 e 4 = G.2.1 e 5 := es.ne (by decide) (by decide) (by decide) (by decide) (by decide)
    refine V_aload_n (pc := 26) X 0 dX8_deliverDown_26 rfl ?_
    refine V_get (pc := 27) X fl_X8_147 dX8_deliverDown_27 es.1 (es.f 5) ?_
    refine V_iconst (pc := 30) (v := 0) X dX8_deliverDown_30 (by decide) ?_
    refine V_callL (pc := 31) X (Or.inl (es.l 5)) _ (c_remove (i := 0) (x := ml) (es.l 5) (by rw [a4, hdr]; rfl) (fun y hy => by rw [a4] at hy; rw [hk6 y (List.mem_of_mem_drop hy)]; omega)) cw_X8_138 (Q.room (by decide) (by decide)) rfl (Nat.le_of_ble_eq_true rfl) rfl (by omega) dX8_deliverDown_31 (fun _ _ z => z.elim) ?_
    rintro v31 h31 ⟨rfl, e31⟩
    rw [e31, a4, show lDel (Hs.drop (eR (zE s e))) 0 = Hs.drop (eR (zE s e) + 1) by rw [hdr]; rfl]
    simp only [Option.toList_some, List.cons_append, List.nil_append]
    obtain ⟨h1, eh1⟩ : ∃ h1, h1 = sL h (G.2.1 e 5) (Hs.drop (eR (zE s e) + 1)) (qC h (G.2.1 e 5)) := ⟨_, rfl⟩
    have L15 : qL h1 (G.2.1 e 5) = Hs.drop (eR (zE s e) + 1) := by rw [eh1, qL_sL, if_pos rfl]
    have C15 : qC h1 (G.2.1 e 5) = qC h (G.2.1 e 5) := by rw [eh1, qC_sL, if_pos rfl]
    rw [← eh1] at F1 ⊢
    have m1 := hms.fr F1 (n35 35 (by decide) _ hms.o) (fun a => n35 _ (Nat.le_trans (show 22 ≤ 40 by decide) (Nat.le_add_right 40 ml)) a)
    have z1 := (z.e he).up F1 (fun a _ y => Or.inr y)
    have u1 := (F1.L (es.k 4) n45).trans a2
    refine V_cast (pc := 34) X clk5 (by decide) ck_X8_141 m1.k dX8_deliverDown_34 ?_
    refine V_astore_n (pc := 37) X [(3, .ref _), (2, .ref _), (0, .ref _), (1, .int _)] dX8_deliverDown_37 rfl (by decide) rfl ?_
    refine V_aload_n (pc := 38) X 1 dX8_deliverDown_38 rfl ?_
    refine V_aload_n (pc := 39) X 0 dX8_deliverDown_39 rfl ?_
    refine V_callV (pc := 40) X clk2 (by decide) z1.1.1 _ (c_eget z1 (fun y hy => F1.K (z.km y hy) (by decide)) m1 wm.1 wm.2.2.2 wm.2.2.1 (hd e he m hm2) (show eR (zE s e) < 2 ^ 28 by omega) he u1 (fun u hu => F1.K ((a1.k hu).1) (by decide)) (by omega) (by rw [F1.C (es.k 4) n45]; exact a3)) cw_X8_159 (Q.room (by decide) (by decide)) rfl (Nat.le_of_ble_eq_true rfl) rfl (by omega) dX8_deliverDown_40 (fun _ _ z => z.elim) ?_
    rintro v40 h2 ⟨rfl, g1, g2, g3, g4, g5⟩
    simp only [Option.toList_none, List.nil_append]
    have F2 : Fr (fun a => own h a = te e) h h2 := F1.trans g5 (fun a _ y => by rw [y]; exact es.o 5) (fun a k y => by rw [← F1.O k rfl]; exact y)
    have sn : snt G.1 h h2 e (G.2.1 e) (eR (zE s e) + 1) (Us e) (dnQ s e m) := ⟨g2.1, g2.2.imp id (fun y => ⟨y.1, by
      obtain ⟨a, b1, b2, b3⟩ := y.2
      refine ⟨a, ?_, b2, b3⟩
      rcases Nat.eq_zero_or_pos (qK h a) with y | y
      · exact y
      · have := F1.K (a := a) rfl (by omega); omega⟩)⟩
    obtain ⟨z6, fc⟩ := z.sent he g1 F2 a2 sn (fun Hs' y => by
      rw [gte_rv, g3, L15, ← List.tail_drop, ← a4, y, List.tail_drop]) (g4.trans C15)
    have m2 := m1.fr g5 (fun y => ref_ne (a := 35) (b := 20 + e) (by omega) (m1.o.symm.trans y)) (fun a y u => ref_ne (a := 40 + ml) (b := 20 + e) (by omega) (y.symm.trans u))
    obtain ⟨ol, R, mh, -⟩ := m2
    refine V_aload_n (pc := 43) X 0 dX8_deliverDown_43 rfl ?_
    refine V_get (pc := 44) X fl_X8_161 dX8_deliverDown_44 mh.1 mh.2.1 ?_
    refine V_aload_n (pc := 47) X 1 dX8_deliverDown_47 rfl ?_
    refine V_get (pc := 48) X fl_X8_164 dX8_deliverDown_48 g1.1.1 g1.1.2.1 ?_
    refine V_icmp_ne (pc := 51) X 59 dX8_deliverDown_51 (by decide) (fun c51 => ?_) (fun c51 => ?_)
    · have em : ¬ m.1 = e := fun y => c51 (by rw [y])
      refine V_bipush (pc := 59) (v := 111) X dX8_deliverDown_59 (by decide) ?_
      refine V_iret (pc := 61) X Q rfl (by decide) dX8_deliverDown_61 ?_
      first
      | exact ⟨⟨e, m, he, rfl, hm2, by rw [if_neg em], z6⟩, fc⟩
      | exact ⟨⟨e, m, he, rfl, hm2, by rw [if_pos em], z6⟩, fc⟩
    · have em : m.1 = e := (nI_eq (by omega) (by omega)).mp c51
      refine V_bipush (pc := 54) (v := 97) X dX8_deliverDown_54 (by decide) ?_
      refine V_goto (pc := 56) X 61 dX8_deliverDown_56 (by decide) ?_
      refine V_iret (pc := 61) X Q rfl (by decide) dX8_deliverDown_61 ?_
      first
      | exact ⟨⟨e, m, he, rfl, hm2, by rw [if_neg em], z6⟩, fc⟩
      | exact ⟨⟨e, m, he, rfl, hm2, by rw [if_pos em], z6⟩, fc⟩
  · have hge : (zH s).length ≤ eR (zE s e) := by
      rcases Nat.lt_or_ge (eR (zE s e)) Hs.length with y | y
      · rw [if_neg (fun u => by have := congrArg List.length u; rw [List.length_drop] at this; simp at this; omega)] at c13; exact absurd rfl c13
      · omega
    exact V_throwN (pc := 16) X Q nt tw_X8_93_157 dX8_deliverDown_16 dX8_deliverDown_19 dX8_deliverDown_20 dX8_deliverDown_22 dX8_deliverDown_25 (by decide) (by decide) (by omega) ⟨Or.inr ⟨e, he, rfl, rfl, hge⟩, rfl⟩
