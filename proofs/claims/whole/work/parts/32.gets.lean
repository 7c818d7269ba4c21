/-! A MESSAGE COMES -/
def rvs (x : EQ) : EQ := (x.1, x.2.1, x.2.2.1, x.2.2.2.1, x.2.2.2.2.1, x.2.2.2.2.2.1, x.2.2.2.2.2.2 + 1)
def fols (x : EQ) (O : List SO) : EQ := O.foldl fol x
def drn (x : EQ) : EQ := (x.1, x.2.1, x.2.2.1.filter (fun o => o.1 ≠ 0), x.2.2.2)
def gte (e me : Nat) (O : List SO) (x : EQ) : EQ := if me = e then sru (rvs x) else drn (fols (rvs x) O)
theorem fol_rv (x : EQ) (b : SO) : (fol x b).2.2.2.2.2.2 = x.2.2.2.2.2.2 := by
  unfold fol
  dsimp only
  split <;> rfl
theorem fols_rv : ∀ (O : List SO) (x : EQ), (fols x O).2.2.2.2.2.2 = x.2.2.2.2.2.2
  | [], _ => rfl
  | b :: O, x => (fols_rv O (fol x b)).trans (fol_rv x b)
theorem fols_succ {x : EQ} {O : List SO} {i : Nat} {o : SO} (h : O[i]? = some o) : fols x (O.take (i + 1)) = fol (fols x (O.take i)) o := by
  unfold fols
  rw [List.take_add_one, h, List.foldl_append]
  rfl
theorem c_eget {E : EV} {la : Nat → Nat} {dm : Nat → Prop} {h : AH} {e me mr ml : Nat} {g : Nat → Nat} {x : EQ} {U : List Nat} {O : List SO} (z : ER la h e g x) (hd : ∀ y, dm y → qK h (la y) = 5) (hm : MS la h ml me mr O) (hme : me ≤ 1) (hO : ∀ o ∈ O, wO dm o) (hOl : O.length ≤ 200) (hw : ∀ i, i ≤ O.length → (i = 0 ∨ ¬ me = e) → WE dm (fols (rvs x) (O.take i))) (hrv : x.2.2.2.2.2.2 < 2 ^ 28) (he : e ≤ 1) (hU : qL h (g 4) = U) (hUk : ∀ u ∈ U, qK h u = 6) (hUl : U.length ≤ 200) (hUc : qC h (g 4) ≤ 301) : Ct E yX2_get cX2_get 3 none 11 (1312 + 104 * O.length) [.ref (g 0), .ref ml] h (fun v h1 => v = none ∧ ER la h1 e g (gte e me O x) ∧ snt la h h1 e g (x.2.2.2.2.2.2 + 1) U (if me = e then x.2.2.1.take (rln x.2.2.1) else []) ∧ qL h1 (g 5) = qL h (g 5) ∧ qC h1 (g 5) = qC h (g 5) ∧ Fr (fun a => own h a = te e) h h1) noX := by
  refine Ct_of RX2 (by decide +kernel) rfl (Nat.le_of_ble_eq_true rfl) (fun Γ X nt Q hin => ?_)
  obtain ⟨xs, S, W, K, cu, mk, rv⟩ := x
  have hE := z.1
  obtain ⟨ol, Rm, mh, mL, mC, mO, mN, mW⟩ := hm
  dsimp only at hrv
  refine V_aload_n (pc := 0) X 0 dX2_get_0 rfl ?_
  refine V_dup (pc := 1) X dX2_get_1 rfl ?_
  refine V_get (pc := 2) X fl_X2_42 dX2_get_2 hE.1 z.2.2.2.2.2.2 ?_
  refine V_iconst (pc := 5) (v := 1) X dX2_get_5 (by decide) ?_
  refine V_iadd (pc := 6) X dX2_get_6 ?_
  rw [nI_1]
  refine V_put (pc := 7) X fl_X2_42 dX2_get_7 hE.1 ⟨rfl, rfl⟩ ?_
  have F0 : Fr (fun a => own h a = te e) h (sF h 209 (g 0) (.int (nI (rv + 1)))) := Fr_sF (hE.o 0)
  have z1 := z.rv (rv + 1)
  have hE1 := z1.1
  have tne : ∀ a, own h a = .ref (40 + ml) → ¬ own h a = te e := fun a y w => by
    rw [y] at w; unfold te at w; exact ref_ne (by omega) w
  have m1 : MH (sF h 209 (g 0) (.int (nI (rv + 1)))) ml me mr ol := mh.fr F0 (fun y => by rw [mh.2.2.2.2.1] at y; unfold te at y; exact ref_ne (by omega) y)
  have ud1 : UD h (sF h 209 (g 0) (.int (nI (rv + 1)))) g := ⟨rfl, rfl, rfl, rfl⟩
  have w0 : WE dm (xs, S, W, K, cu, mk, rv + 1) := hw 0 (Nat.zero_le _) (Or.inl rfl)
  generalize hh1 : sF h 209 (g 0) (.int (nI (rv + 1))) = h1 at F0 z1 hE1 m1 ud1
  refine V_aload_n (pc := 10) X 1 dX2_get_10 rfl ?_
  refine V_get (pc := 11) X fl_X2_73 dX2_get_11 m1.1 m1.2.1 ?_
  refine V_aload_n (pc := 14) X 0 dX2_get_14 rfl ?_
  refine V_get (pc := 15) X fl_X2_45 dX2_get_15 hE1.1 hE1.2.1 ?_
  refine V_icmp_ne (pc := 18) X 26 dX2_get_18 (by decide) (fun c18 => ?_) (fun c18 => ?_)
  · have e0 : ¬ me = e := fun y => c18 (by rw [y])
    refine V_iconst (pc := 26) (v := 0) X dX2_get_26 (by decide) ?_
    refine V_istore_n (pc := 27) X [(2, .int _), (0, .ref _), (1, .ref _)] dX2_get_27 rfl (by decide) rfl ?_
    have key : ∀ (n i : Nat), O.length - i < n → i ≤ O.length → ∀ hr : AH, ER la hr e g (fols (rvs (xs, S, W, K, cu, mk, rv)) (O.take i)) → UD h hr g → Fr (fun a => own h a = te e) h hr → V E Γ (104 * (O.length - i)) hr 28 [(2, .int (nI i)), (0, .ref (g 0)), (1, .ref ml)] [] := by
      intro n
      induction n with
      | zero => exact fun i hn => absurd hn (Nat.not_lt_zero _)
      | succ n ih =>
        intro i hn hi hr r1 r2 r3
        have hE2 := r1.1
        have m2 := mh.fr r3 (fun y => by rw [mh.2.2.2.2.1] at y; unfold te at y; exact ref_ne (by omega) y)
        have hkol : qK h ol ≠ 0 := by rw [mh.2.2.2.2.2.1]; decide
        have Lm := (r3.L hkol (tne _ mh.2.2.2.2.2.2)).trans mL
        have Om := mO.fr r3 (fun r hr => tne r (mW r hr))
        have hRO := mO.1
        refine V_iload_n (pc := 28) X 0 dX2_get_28 rfl ?_
        refine V_aload_n (pc := 29) X 2 dX2_get_29 rfl ?_
        refine V_get (pc := 30) X fl_X2_81 dX2_get_30 m2.1 m2.2.2.2.1 ?_
        refine V_callL (pc := 33) X (Or.inl m2.2.2.2.2.2.1) _ (c_size m2.2.2.2.2.2.1) cw_X2_84 (Q.room (by decide) (by decide)) rfl (Nat.le_of_ble_eq_true rfl) rfl (by omega) dX2_get_33 (fun _ _ z => z.elim) ?_
        rintro v33 h33 ⟨rfl, e33⟩
        rw [e33, Lm]
        simp only [Option.toList_some, List.cons_append, List.nil_append]
        rw [hRO]
        refine V_icmp_ge (pc := 36) X 63 dX2_get_36 (by decide) (fun c36 => ?_) (fun c36 => ?_)
        · have hie : ¬ i < O.length := fun z => nI_ge z (by omega) c36
          refine V_aload_n (pc := 63) X 1 dX2_get_63 rfl ?_
          have hii : i = O.length := by omega
          subst hii
          rw [List.take_length] at r1
          have w4 := hw O.length (Nat.le_refl _) (Or.inr e0)
          rw [List.take_length] at w4
          have hrx : (fols (rvs (xs, S, W, K, cu, mk, rv)) O).2.2.2.2.2.2 = rv + 1 := fols_rv _ _
          generalize hy : fols (rvs (xs, S, W, K, cu, mk, rv)) O = y at r1 w4 hrx
          obtain ⟨ys, S2, W2, K2, cu2, mk2, rv2⟩ := y
          obtain ⟨P2, P3, p2, p3, pnd⟩ := r1.2.2.1
          dsimp only at p2 p3 hrx
          have hP3 := p3.2.1.1
          have hW2 : W2.length ≤ 200 := w4.2.2.1.1
          refine V_callV (pc := 64) X clk2 (by decide) hE2.1 _ (c_dropN hE2 p3.1 p3.2.1 (fun o ho => by have := w4.2.2.1.2 o ho; unfold wO at this; omega) (by omega)) cw_X2_98 (Q.room (by decide) (by decide)) rfl (Nat.le_of_ble_eq_true rfl) rfl (by omega) dX2_get_64 (fun _ _ z => z.elim) ?_
          rintro v64 h64 ⟨rfl, R1, d1, d2, d3, d4, d5⟩
          simp only [Option.toList_none, List.nil_append]
          refine V_vret (pc := 67) X Q rfl dX2_get_67 ?_
          have n : ∀ i, 2 ≤ i → i ≤ 7 → i ≠ 3 → ¬ g i = g 3 := fun i a b c => hE2.ne a b (by decide) (by decide) c
          have hud : UD h h64 g := r2.trans (d5.UD hE2 (n 4 (by decide) (by decide) (by decide)) (n 5 (by decide) (by decide) (by decide)))
          refine ⟨rfl, ?_, ?_, hud.2.2.1, hud.2.2.2, r3.trans d5 (fun _ _ y => y) (fun a _ y => by rw [y]; exact hE.o 3)⟩
          · unfold gte
            rw [if_neg e0, hy]
            refine r1.lists (d5.mono (fun a _ y => Or.inr y)) (p2.fr d5 (hE2.k 2) (n 2 (by decide) (by decide) (by decide)) (fun r hr y => by have := p2.2.1.kind hr; have := hE2.l 3; rw [← y] at this; omega)) ⟨d1, d2, fun r hr => ?_, by rw [d4]; exact p3.2.2.2⟩ ?_
            · have := d3.subset hr
              exact d5.O (by rw [p3.2.1.kind this]; decide) (p3.2.2.1 r this)
            · exact (List.Sublist.append (List.Sublist.refl P2) d3).nodup pnd
          · rw [if_neg e0]
            exact ⟨by rw [hud.2.1]; exact hUc, Or.inl ⟨rfl, hud.1.trans hU⟩⟩
        · have hlt : i < O.length := by
            rcases Nat.lt_or_ge i (O.length) with z | z
            · exact z
            · exact absurd (nI_le z (by omega)) c36
          obtain ⟨r, o, hr1, ho1, ho⟩ := Om.at (i := i) (by omega)
          obtain ⟨u, hu⟩ : ∃ u, O.length - i = u + 1 := ⟨O.length - i - 1, by omega⟩
          refine V_aload_n (pc := 39) X 1 dX2_get_39 rfl ?_
          refine V_aload_n (pc := 40) X 2 dX2_get_40 rfl ?_
          refine V_get (pc := 41) X fl_X2_81 dX2_get_41 m2.1 m2.2.2.2.1 ?_
          refine V_iload_n (pc := 44) X 0 dX2_get_44 rfl ?_
          refine V_callL (pc := 45) X (Or.inl m2.2.2.2.2.2.1) _ (c_get (i := i) (x := r) m2.2.2.2.2.2.1 (by rw [Lm]; exact hr1) (by rw [Lm]; omega)) cw_X2_87 (Q.room (by decide) (by decide)) rfl (Nat.le_of_ble_eq_true rfl) rfl (by omega) dX2_get_45 (fun _ _ z => z.elim) ?_
          rintro v45 h45 ⟨rfl, e45⟩
          rw [e45]
          simp only [Option.toList_some, List.cons_append, List.nil_append]
          refine V_cast (pc := 48) X clk6 (by decide) ck_X2_53 ho.1 dX2_get_48 ?_
          refine V_callV (pc := 51) X clk6 (by decide) ho.1 _ (c_copy (k := o.1) (p := o.2.1) (x := o.2.2.1) (w := o.2.2.2) ho) cw_X2_91 (Q.room (by decide) (by decide)) rfl (Nat.le_of_ble_eq_true rfl) rfl (by omega) dX2_get_51 (fun _ _ z => z.elim) ?_
          rintro v51 h51 ⟨q, rfl, q0, oq, Fq⟩
          simp only [Option.toList_some, List.cons_append, List.nil_append]
          refine V_own q (te e) ?_
          have Fh : Fr (fun _ => False) hr (sF h51 9999 q (te e)) := (Fq _).own q0
          have z3 := r1.fr Fh (fun _ _ y => y)
          have oq2 : OP la (sF h51 9999 q (te e)) q o := OP.own oq
          have woo := hO o (List.mem_of_getElem? ho1)
          have kdm : ∀ y, dm y → qK (sF h51 9999 q (te e)) (la y) = 5 := fun y hy => Fh.K (r3.K (hd y hy) (by decide)) (by decide)
          have qn : ∀ i, 2 ≤ i → i ≤ 3 → q ∉ qL (sF h51 9999 q (te e)) (g i) := fun i a b y => by
            rw [Fh.L (hE2.k i a (by omega)) (fun y => y)] at y
            obtain ⟨P2, P3, p2, p3, -⟩ := r1.2.2.1
            rcases (show i = 2 ∨ i = 3 by omega) with rfl | rfl
            · rw [p2.1] at y; have := p2.2.1.kind y; omega
            · rw [p3.1] at y; have := p3.2.1.kind y; omega
          refine V_callV (pc := 54) X clk2 (by decide) z3.1.1 _ (c_follow z3 (hw i (by omega) (Or.inr e0)) kdm oq2 own_own qn woo) cw_X2_95 (Q.room (by decide) (by decide)) rfl (Nat.le_of_ble_eq_true rfl) rfl (by omega) dX2_get_54 (fun _ _ z => z.elim) ?_
          rintro v54 h54 ⟨rfl, y1, y2, y3⟩
          simp only [Option.toList_none, List.nil_append]
          refine V_inc1 (pc := 57) X 0 [(2, .int _), (0, .ref _), (1, .ref _)] dX2_get_57 rfl (by decide) rfl ?_
          rw [nI_1]
          refine V_goto (pc := 60) X 28 dX2_get_60 (by decide) ?_
          refine V.less (b' := 104 * (O.length - (i + 1))) (by omega) ?_
          refine ih (i + 1) (by omega) (by omega) _ ?_ (r2.trans ((Fh.UD hE2 (fun y => y) (fun y => y)).trans y2)) ?_
          · rw [fols_succ ho1]; exact y1
          · exact r3.trans (Fh.trans y3 (U := fun a => own hr a = te e) (fun _ _ y => y.elim) (fun a k y => by rw [← Fh.O k rfl]; exact y)) (fun _ _ y => y) (fun a k y => by rw [← r3.O k rfl]; exact y)
    refine V.less (b' := 104 * (O.length - 0)) (by omega) ?_
    exact key (O.length + 1) 0 (by omega) (Nat.zero_le _) _ z1 ud1 F0
  · have e0 : me = e := (nI_eq (by omega) (by omega)).mp c18
    refine V_aload_n (pc := 21) X 0 dX2_get_21 rfl ?_
    refine V_callV (pc := 22) X clk2 (by decide) hE1.1 _ (c_sendRun z1 w0 he (ud1.1.trans hU) (fun u hu => F0.K (hUk u hu) (by decide)) hUl (by rw [ud1.2.1]; exact hUc)) cw_X2_78 (Q.room (by decide) (by decide)) rfl (Nat.le_of_ble_eq_true rfl) rfl (by omega) dX2_get_22 (fun _ _ z => z.elim) ?_
    rintro v22 h22 ⟨rfl, y1, y2, y3, y4, y5⟩
    simp only [Option.toList_none, List.nil_append]
    refine V_vret (pc := 25) X Q rfl dX2_get_25 ?_
    refine ⟨rfl, ?_, ?_, y3.trans ud1.2.2.1, y4.trans ud1.2.2.2, F0.trans y5 (fun _ _ y => y) (fun a k y => by rw [← F0.O k rfl]; exact y)⟩
    · unfold gte; rw [if_pos e0]; exact y1
    · rw [if_pos e0]
      refine ⟨y2.1, y2.2.imp id (fun y => ⟨y.1, ?_⟩)⟩
      obtain ⟨m, q1, q2, q3⟩ := y.2
      refine ⟨m, ?_, q2, q3⟩
      rcases Nat.eq_zero_or_pos (qK h m) with y | y
      · exact y
      · have := F0.K (a := m) rfl (by omega); omega

