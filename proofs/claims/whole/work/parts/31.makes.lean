/-! MAKING, SENDING -/
theorem ER.up {la : Nat → Nat} {h h' : AH} {e : Nat} {g : Nat → Nat} {x : EQ} {S : Nat → Prop} (z : ER la h e g x) (F : Fr S h h') (hs : ∀ a, qK h a ≠ 0 → S a → a = g 4 ∨ a = g 5) : ER la h' e g x := by
  have F' := F.mono hs
  obtain ⟨z1, ⟨c, z2, z3⟩, ⟨R2, R3, z4, z5, z6⟩, ⟨R, z7, z8, z9, z10, z11⟩, z12, z13, z14⟩ := z
  have n : ∀ i, 2 ≤ i → i ≤ 7 → i ≠ 4 → i ≠ 5 → ¬ (g i = g 4 ∨ g i = g 5) := fun i a b c d y => y.elim (z1.ne a b (by decide) (by decide) c) (z1.ne a b (by decide) (by decide) d)
  have n0 : ¬ (g 0 = g 4 ∨ g 0 = g 5) := fun y => y.elim (z1.n0 (by decide) (by decide)) (z1.n0 (by decide) (by decide))
  have n1 : ¬ (g 1 = g 4 ∨ g 1 = g 5) := fun y => y.elim (z1.n1 (by decide) (by decide)) (z1.n1 (by decide) (by decide))
  have nk : ∀ r, qK h r ≠ 11 → ¬ (r = g 4 ∨ r = g 5) := fun r k y => y.elim (fun y => k (by rw [y]; exact z1.l 4)) (fun y => k (by rw [y]; exact z1.l 5))
  exact ⟨z1.fr F' n0, ⟨c, z2.fr F' n1 (n 7 (by decide) (by decide) (by decide) (by decide)), z3⟩, ⟨R2, R3, z4.fr F' (z1.k 2) (n 2 (by decide) (by decide) (by decide) (by decide)) (fun r hr => nk r (by rw [z4.2.1.kind hr]; decide)), z5.fr F' (z1.k 3) (n 3 (by decide) (by decide) (by decide) (by decide)) (fun r hr => nk r (by rw [z5.2.1.kind hr]; decide)), z6⟩,
    ⟨R, (F'.L (z1.k 6) (n 6 (by decide) (by decide) (by decide) (by decide))).trans z7, z8.fr F' (fun r hr => nk r (by rw [z8.kind hr]; decide)), z9, fun r hr => F'.O (by have := z8.kind hr; omega) (z10 r hr), by rw [F'.C (z1.k 6) (n 6 (by decide) (by decide) (by decide) (by decide))]; exact z11⟩, F'.F z1.k0 n0 z12, F'.F z1.k0 n0 z13, F'.F z1.k0 n0 z14⟩
/-- the lists of sent and waiting operations are set -/
theorem ER.lists {la : Nat → Nat} {h h' : AH} {e : Nat} {g : Nat → Nat} {xs : List Nat} {S W S' W' : List SO} {K : List KO} {cu mk rv : Nat} {R2 R3 : List Nat} (z : ER la h e g (xs, S, W, K, cu, mk, rv)) (F : Fr (fun a => a = g 2 ∨ a = g 3) h h') (o2 : OL la h' (te e) (g 2) R2 S') (o3 : OL la h' (te e) (g 3) R3 W') (nd : (R2 ++ R3).Nodup) : ER la h' e g (xs, S', W', K, cu, mk, rv) := by
  obtain ⟨z1, ⟨c, z2, z3⟩, -, ⟨R, z7, z8, z9, z10, z11⟩, z12, z13, z14⟩ := z
  have n : ∀ i, 4 ≤ i → i ≤ 7 → ¬ (g i = g 2 ∨ g i = g 3) := fun i a b y => y.elim (z1.ne (by omega) b (by decide) (by decide) (by omega)) (z1.ne (by omega) b (by decide) (by decide) (by omega))
  have n0 : ¬ (g 0 = g 2 ∨ g 0 = g 3) := fun y => y.elim (z1.n0 (by decide) (by decide)) (z1.n0 (by decide) (by decide))
  have n1 : ¬ (g 1 = g 2 ∨ g 1 = g 3) := fun y => y.elim (z1.n1 (by decide) (by decide)) (z1.n1 (by decide) (by decide))
  have nk : ∀ r, qK h r ≠ 11 → ¬ (r = g 2 ∨ r = g 3) := fun r k y => y.elim (fun y => k (by rw [y]; exact z1.l 2)) (fun y => k (by rw [y]; exact z1.l 3))
  exact ⟨z1.fr F n0, ⟨c, z2.fr F n1 (n 7 (by decide) (by decide)), z3⟩, ⟨R2, R3, o2, o3, nd⟩,
    ⟨R, (F.L (z1.k 6) (n 6 (by decide) (by decide))).trans z7, z8.fr F (fun r hr => nk r (by rw [z8.kind hr]; decide)), z9, fun r hr => F.O (by have := z8.kind hr; omega) (z10 r hr), by rw [F.C (z1.k 6) (n 6 (by decide) (by decide))]; exact z11⟩, F.F z1.k0 n0 z12, F.F z1.k0 n0 z13, F.F z1.k0 n0 z14⟩
/-- what may have been sent: nothing, or one message with O -/
def snt (la : Nat → Nat) (h h1 : AH) (e : Nat) (g : Nat → Nat) (rv : Nat) (U : List Nat) (O : List SO) : Prop := qC h1 (g 4) ≤ 301 ∧ ((O = [] ∧ qL h1 (g 4) = U) ∨ (O ≠ [] ∧ ∃ m, qK h m = 0 ∧ MS la h1 m e rv O ∧ qL h1 (g 4) = U ++ [m]))
def mak (x : EQ) (o : SO) : EQ := (apO o x.1, if x.2.1 = [] then [o] else x.2.1, if x.2.1 = [] then x.2.2.1 else x.2.2.1 ++ [o], x.2.2.2.1.map (mvk o), bhd o, mvp o x.2.2.2.2.2.1, x.2.2.2.2.2.2)
def sru (x : EQ) : EQ := (x.1, x.2.2.1.take (rln x.2.2.1), x.2.2.1.drop (rln x.2.2.1), x.2.2.2)
theorem c_ecar {E : EV} {la : Nat → Nat} {dm : Nat → Prop} {h : AH} {e p : Nat} {g : Nat → Nat} {xs : List Nat} {S W : List SO} {K : List KO} {cu mk rv : Nat} {o : SO} (z : ER la h e g (xs, S, W, K, cu, mk, rv)) (hw : WE dm (xs, S, W, K, cu, mk, rv)) (hd : ∀ y, dm y → qK h (la y) = 5) (hp : OP la h p o) (wo : wO dm o) (o0 : o.1 ≠ 0) : Ct E yX2_carryOut cX2_carryOut 4 none 9 101 [.ref (g 0), .ref p] h (fun v h1 => v = none ∧ ER la h1 e g (apO o xs, S, W, K.map (mvk o), cu, mk, rv) ∧ OP la h1 p o ∧ UD h h1 g ∧ (∀ i, 2 ≤ i → i ≤ 3 → qL h1 (g i) = qL h (g i) ∧ qC h1 (g i) = qC h (g i)) ∧ Fr (fun a => own h a = te e) h h1) noX := by
  obtain ⟨⟨wx, wx2⟩, ⟨wS, wS2⟩, ⟨wW, wW2⟩, ⟨wKl, wK2⟩, wc, wm, wr⟩ := hw
  obtain ⟨wb1, wb2, wb3, wb4⟩ := wo
  obtain ⟨hE, ⟨c, hx, hc⟩, ⟨R2, R3, l2, l3, nd⟩, ⟨RK, L6, K2, q3, O6, C6⟩, g7, g8, g9⟩ := z
  dsimp only at wx wx2 wS wS2 wW wW2 wKl wK2 wc wm wr hx l2 l3 K2 g7 g8 g9
  refine (c_ecarry hE hx L6 K2 q3 hp (fun _ => hd _ wb4) (fun y hy => hd y (wx2 y hy)) wb1 o0 (by omega) wx hc (fun k hk => by have := wK2 k hk; unfold wK at this; omega) (by rw [K2.1]; omega)).mono ?_ (fun _ _ z => z)
  rintro v h1 ⟨rfl, u1, u2, u3⟩
  have n0 : ¬ (g 0 = g 7 ∨ g 0 ∈ RK) := fun y => y.elim (hE.n0 (by decide) (by decide)) (fun y => by have := K2.kind y; have := hE.1; omega)
  have nk : ∀ i, 2 ≤ i → i ≤ 6 → ¬ (g i = g 7 ∨ g i ∈ RK) := fun i a b y => y.elim (hE.ne a (by omega) (by decide) (by decide) (by omega)) (fun y => by have := K2.kind y; have := hE.l i a (by omega); omega)
  have no : ∀ r, qK h r = 7 → ¬ (r = g 7 ∨ r ∈ RK) := fun r k y => y.elim (fun y => by have := hE.l 7; rw [y] at k; omega) (fun y => by have := K2.kind y; omega)
  exact ⟨rfl, ⟨hE.fr u3 n0, ⟨_, u1, Nat.le_trans (caO_max wx) (by omega)⟩, ⟨R2, R3, l2.fr u3 (hE.k 2) (nk 2 (by decide) (by decide)) (fun r hr => no r (l2.2.1.kind hr)), l3.fr u3 (hE.k 3) (nk 3 (by decide) (by decide)) (fun r hr => no r (l3.2.1.kind hr)), nd⟩, ⟨RK, (u3.L (hE.k 6) (nk 6 (by decide) (by decide))).trans L6, u2, q3, fun r hr => u3.O (by rw [K2.kind hr]; decide) (O6 r hr), by rw [u3.C (hE.k 6) (nk 6 (by decide) (by decide))]; exact C6⟩, u3.F hE.k0 n0 g7, u3.F hE.k0 n0 g8, u3.F hE.k0 n0 g9⟩,
    hp.fr u3 (no _ hp.1), u3.UD hE (nk 4 (by decide) (by decide)) (nk 5 (by decide) (by decide)), fun i a b => ⟨u3.L (hE.k i a (by omega)) (nk i a (by omega)), u3.C (hE.k i a (by omega)) (nk i a (by omega))⟩, u3.mono (fun a _ y => y.elim (fun y => by rw [y]; exact hE.o 7) (fun y => O6 a y))⟩
theorem c_make {E : EV} {la : Nat → Nat} {dm : Nat → Prop} {h : AH} {e p : Nat} {g : Nat → Nat} {x : EQ} {o : SO} {U : List Nat} (z : ER la h e g x) (hw : WE dm x) (hd : ∀ y, dm y → qK h (la y) = 5) (hp : OP la h p o) (po : own h p = te e) (pn : ∀ i, 2 ≤ i → i ≤ 3 → p ∉ qL h (g i)) (wo : wO dm o) (o0 : o.1 ≠ 0) (he : e ≤ 1) (hU : qL h (g 4) = U) (hUk : ∀ u ∈ U, qK h u = 6) (hUl : U.length ≤ 200) (hUc : qC h (g 4) ≤ 301) : Ct E yX2_make cX2_make 2 none 10 1212 [.ref (g 0), .ref p] h (fun v h1 => v = none ∧ ER la h1 e g (mak x o) ∧ snt la h h1 e g x.2.2.2.2.2.2 U (if x.2.1 = [] then [o] else []) ∧ qL h1 (g 5) = qL h (g 5) ∧ qC h1 (g 5) = qC h (g 5) ∧ Fr (fun a => own h a = te e) h h1) noX := by
  refine Ct_of RX2 (by decide +kernel) rfl (Nat.le_of_ble_eq_true rfl) (fun Γ X nt Q hin => ?_)
  obtain ⟨xs, S, W, K, cu, mk, rv⟩ := x
  have hE0 := z.1
  have hm := hw.2.2.2.2.2.1
  have hk := wo.1
  have hwp := wo.2.1
  dsimp only at hm
  refine V_aload_n (pc := 0) X 0 dX2_make_0 rfl ?_
  refine V_aload_n (pc := 1) X 1 dX2_make_1 rfl ?_
  refine V_callV (pc := 2) X clk2 (by decide) hE0.1 _ (c_ecar z hw hd hp wo o0) cw_X2_48 (Q.room (by decide) (by decide)) rfl (Nat.le_of_ble_eq_true rfl) rfl (by omega) dX2_make_2 (fun _ _ z => z.elim) ?_
  rintro v2 h2 ⟨rfl, z2, p2, ud2, l2, F2⟩
  simp only [Option.toList_none, List.nil_append]
  refine V.less (b' := 1111) (by omega) ?_
  have hE := z2.1
  refine V_aload_n (pc := 5) X 0 dX2_make_5 rfl ?_
  refine V_aload_n (pc := 6) X 1 dX2_make_6 rfl ?_
  refine V_callV (pc := 7) X clk6 (by decide) p2.1 _ (c_behind (k := o.1) (p := o.2.1) (x := o.2.2.1) (w := o.2.2.2) p2 hk o0 (by omega)) cw_X2_52 (Q.room (by decide) (by decide)) rfl (Nat.le_of_ble_eq_true rfl) rfl (by omega) dX2_make_7 (fun _ _ z => z.elim) ?_
  rintro v7 h7 ⟨rfl, e7⟩
  rw [e7]
  simp only [Option.toList_some, List.cons_append, List.nil_append]
  refine V_put (pc := 10) X fl_X2_35 dX2_make_10 hE.1 ⟨rfl, rfl⟩ ?_
  have z3 := z2.cu (bhd o)
  have p3 : OP la (sF h2 207 (g 0) (.int (nI (bhd o)))) p o := p2.fr (Fr_sF (S := fun a => a = g 0) rfl) (fun y => by have := p2.1; have := hE.1; rw [← y] at this; omega)
  refine V_aload_n (pc := 13) X 0 dX2_make_13 rfl ?_
  refine V_aload_n (pc := 14) X 1 dX2_make_14 rfl ?_
  refine V_aload_n (pc := 15) X 0 dX2_make_15 rfl ?_
  refine V_get (pc := 16) X fl_X2_39 dX2_make_16 z3.1.1 (show _ = Value.int (nI mk) from z3.2.2.2.2.2.1) ?_
  refine V_callV (pc := 19) X clk6 (by decide) p3.1 _ (c_move (k := o.1) (p := o.2.1) (x := o.2.2.1) (w := o.2.2.2) p3 hk o0 (by omega) (by omega)) cw_X2_58 (Q.room (by decide) (by decide)) rfl (Nat.le_of_ble_eq_true rfl) rfl (by omega) dX2_make_19 (fun _ _ z => z.elim) ?_
  rintro v19 h19 ⟨rfl, e19⟩
  rw [e19]
  simp only [Option.toList_some, List.cons_append, List.nil_append]
  refine V_put (pc := 22) X fl_X2_39 dX2_make_22 z3.1.1 ⟨rfl, rfl⟩ ?_
  have z4 := z3.mk (mvp o mk)
  have p4 : OP la (sF (sF h2 207 (g 0) (.int (nI (bhd o)))) 208 (g 0) (.int (nI (mvp o mk)))) p o := p3.fr (Fr_sF (S := fun a => a = g 0) rfl) (fun y => by have := p2.1; have := hE.1; rw [← y] at this; omega)
  have F4 : Fr (fun a => own h a = te e) h (sF (sF h2 207 (g 0) (.int (nI (bhd o)))) 208 (g 0) (.int (nI (mvp o mk)))) := F2.trans ((Fr_sF (S := fun a => a = g 0) rfl).seq (Fr_sF rfl)) (fun _ _ y => y) (fun a _ y => by rw [y]; exact hE0.o 0)
  have m4 : ∀ i, 2 ≤ i → i ≤ 3 → qL (sF (sF h2 207 (g 0) (.int (nI (bhd o)))) 208 (g 0) (.int (nI (mvp o mk)))) (g i) = qL h (g i) := fun i a b => (l2 i a b).1
  have ud4 : UD h (sF (sF h2 207 (g 0) (.int (nI (bhd o)))) 208 (g 0) (.int (nI (mvp o mk)))) g := ud2
  have po4 : own (sF (sF h2 207 (g 0) (.int (nI (bhd o)))) 208 (g 0) (.int (nI (mvp o mk)))) p = te e := F4.O (by rw [hp.1]; decide) po
  generalize hh4 : sF (sF h2 207 (g 0) (.int (nI (bhd o)))) 208 (g 0) (.int (nI (mvp o mk))) = h4 at z4 p4 F4 m4 ud4 po4
  obtain ⟨R2, R3, o2, o3, nd⟩ := z4.2.2.1
  have hE4 := z4.1
  have nd2 := (List.nodup_append.mp nd).1
  have nd3 := (List.nodup_append.mp nd).2.1
  have nd23 := (List.nodup_append.mp nd).2.2
  dsimp only at o2 o3
  have hS2 : R2 = [] ↔ S = [] := by rw [← List.length_eq_zero_iff, ← List.length_eq_zero_iff, o2.2.1.1]
  have hp2 : p ∉ R2 := by rw [← o2.1, m4 2 (by decide) (by decide)]; exact pn 2 (by decide) (by decide)
  have hp3 : p ∉ R3 := by rw [← o3.1, m4 3 (by decide) (by decide)]; exact pn 3 (by decide) (by decide)
  have wS : S.length ≤ 200 := hw.2.1.1
  have wW : W.length ≤ 200 := hw.2.2.1.1
  have hR2 := o2.2.1.1
  have hR3 := o3.2.1.1
  refine V_aload_n (pc := 25) X 0 dX2_make_25 rfl ?_
  refine V_get (pc := 26) X fl_X2_19 dX2_make_26 hE4.1 (hE4.f 2) ?_
  refine V_callL (pc := 29) X (Or.inl (hE4.l 2)) _ (c_isEmpty (hE4.l 2) (by rw [o2.1]; omega)) cw_X2_62 (Q.room (by decide) (by decide)) rfl (Nat.le_of_ble_eq_true rfl) rfl (by omega) dX2_make_29 (fun _ _ z => z.elim) ?_
  rintro v29 h29 ⟨rfl, e29⟩
  rw [e29, o2.1]
  simp only [Option.toList_some, List.cons_append, List.nil_append]
  refine V_if_eq (pc := 32) X 51 dX2_make_32 (by decide) (fun c32 => ?_) (fun c32 => ?_)
  · have e0 : ¬ S = [] := fun y => by rw [if_pos (hS2.mpr y)] at c32; exact absurd c32 (by decide)
    refine V_aload_n (pc := 51) X 0 dX2_make_51 rfl ?_
    refine V_get (pc := 52) X fl_X2_23 dX2_make_52 hE4.1 (hE4.f 3) ?_
    refine V_aload_n (pc := 55) X 1 dX2_make_55 rfl ?_
    refine V_callL (pc := 56) X (Or.inl (hE4.l 3)) _ (c_add (x := p) (hE4.l 3) (by rw [p4.1]; omega) (by have := o3.2.2.2; omega) (fun y hy => by rw [o3.1] at hy; rw [o3.2.1.kind hy]; omega)) cw_X2_66 (Q.room (by decide) (by decide)) rfl (Nat.le_of_ble_eq_true rfl) rfl (by have := gcap_inc (n := (qL h4 (g 3)).length) (c := qC h4 (g 3)) (by rw [o3.1]; omega); omega) dX2_make_56 (fun _ _ z => z.elim) ?_
    rintro v56 h56 ⟨rfl, e56⟩
    rw [e56, o3.1]
    simp only [Option.toList_some, List.cons_append, List.nil_append]
    refine V_pop (pc := 59) X dX2_make_59 rfl ?_
    refine V_vret (pc := 60) X Q rfl dX2_make_60 ?_
    first
    | (have F5 : Fr (fun a => a = g 3) h4 (sL h4 (g 3) (R3 ++ [p]) (gcap R3.length (qC h4 (g 3)))) := Fr_sL rfl
       have n43 : ¬ g 4 = g 3 := hE4.ne (by decide) (by decide) (by decide) (by decide) (by decide)
       have n53 : ¬ g 5 = g 3 := hE4.ne (by decide) (by decide) (by decide) (by decide) (by decide)
       refine ⟨rfl, ?_, ⟨?_, Or.inl ⟨if_neg e0, ?_⟩⟩, (F5.L (hE4.k 5) n53).trans ud4.2.2.1, (F5.C (hE4.k 5) n53).trans ud4.2.2.2, F4.trans F5 (fun _ _ y => y) (fun a _ y => by rw [y]; exact hE0.o 3)⟩
       · unfold mak
         dsimp only
         rw [if_neg e0, if_neg e0]
         exact z4.lists (F5.mono (fun a _ y => Or.inr y)) (o2.fr F5 (hE4.k 2) (hE4.ne (by decide) (by decide) (by decide) (by decide) (by decide)) (fun r hr y => by have := o2.2.1.kind hr; have := hE4.l 3; rw [← y] at this; omega)) ⟨by rw [qL_sL, if_pos rfl], (o3.2.1.fr F5 (fun r hr y => by have := o3.2.1.kind hr; have := hE4.l 3; rw [← y] at this; omega)).app (OPs.cons (p4.fr F5 (fun y => by have := p4.1; have := hE4.l 3; rw [← y] at this; omega)) (OPs.nil _ _)), fun r hr => by
           rcases List.mem_append.mp hr with hr | hr
           · exact F5.O (by rw [o3.2.1.kind hr]; decide) (o3.2.2.1 r hr)
           · rw [show r = p by simpa using hr]; exact F5.O (by rw [p4.1]; decide) po4, by rw [qC_sL, if_pos rfl]; exact Nat.le_trans (gcap_max (by omega)) (by have := o3.2.2.2; omega)⟩ (by
           rw [← List.append_assoc]
           refine List.nodup_append.mpr ⟨nd, by simp, fun a ha b hb y => ?_⟩
           have hbp : b = p := by simpa using hb
           rw [y, hbp] at ha
           exact (List.mem_append.mp ha).elim hp2 hp3)
       · rw [F5.C (hE4.k 4) n43, ud4.2.1]; exact hUc
       · exact (F5.L (hE4.k 4) n43).trans (ud4.1.trans hU))
    | (refine ⟨rfl, ?_, ⟨m3, Or.inr ⟨?_, m, ?_, ?_, m2⟩⟩, (m4.L (z5.1.k 5) (hE4.ne (by decide) (by decide) (by decide) (by decide) (by decide))).trans ((F5.L (hE4.k 5) n52).trans ud4.2.2.1), (m4.C (z5.1.k 5) (hE4.ne (by decide) (by decide) (by decide) (by decide) (by decide))).trans ((F5.C (hE4.k 5) n52).trans ud4.2.2.2), (F4.trans F5 (fun _ _ y => y) (fun a _ y => by rw [y]; exact hE0.o 2)).trans m4 (fun _ _ y => y) (fun a _ y => by rw [y]; exact hE0.o 4)⟩
       · unfold mak
         dsimp only
         rw [if_pos e0, if_pos e0]
         exact z5.up m4 (fun a _ y => Or.inl y)
       · rw [if_pos e0]; simp
       · rcases Nat.eq_zero_or_pos (qK h m) with y | y
         · exact y
         · have := (F4.trans F5 (U := fun _ => True) (fun _ _ _ => trivial) (fun _ _ _ => trivial)).K (a := m) rfl (by omega); omega
       · rw [if_pos e0]; exact m1)
  · have e0 : S = [] := by
      by_cases y : R2 = []
      · exact hS2.mp y
      · rw [if_neg y] at c32; exact absurd rfl c32
    have e2 : R2 = [] := hS2.mpr e0
    have F5 : Fr (fun a => a = g 2) h4 (sL h4 (g 2) (R2 ++ [p]) (gcap R2.length (qC h4 (g 2)))) := Fr_sL rfl
    have eR : R2 ++ [p] = [p] := by rw [e2]; rfl
    have L52 : qL (sL h4 (g 2) (R2 ++ [p]) (gcap R2.length (qC h4 (g 2)))) (g 2) = [p] := by rw [qL_sL, if_pos rfl]; exact eR
    have O52 : OPs la (sL h4 (g 2) (R2 ++ [p]) (gcap R2.length (qC h4 (g 2)))) [p] [o] := OPs.cons (p4.fr F5 (fun y => by have := p4.1; have := hE4.l 2; rw [← y] at this; omega)) (OPs.nil _ _)
    have z5 : ER la (sL h4 (g 2) (R2 ++ [p]) (gcap R2.length (qC h4 (g 2)))) e g (apO o xs, [o], W, K.map (mvk o), bhd o, mvp o mk, rv) := z4.lists (F5.mono (fun a _ y => Or.inl y)) ⟨L52, O52, fun r hr => by
        rw [show r = p by simpa using hr]; exact F5.O (by rw [p4.1]; decide) po4, by rw [qC_sL, if_pos rfl]; exact Nat.le_trans (gcap_max (by omega)) (by have := o2.2.2.2; omega)⟩ (o3.fr F5 (hE4.k 3) (hE4.ne (by decide) (by decide) (by decide) (by decide) (by decide)) (fun r hr y => by have := o3.2.1.kind hr; have := hE4.l 2; rw [← y] at this; omega)) (List.nodup_cons.mpr ⟨hp3, nd3⟩)
    have n42 : ¬ g 4 = g 2 := hE4.ne (by decide) (by decide) (by decide) (by decide) (by decide)
    have n52 : ¬ g 5 = g 2 := hE4.ne (by decide) (by decide) (by decide) (by decide) (by decide)
    refine V_aload_n (pc := 35) X 0 dX2_make_35 rfl ?_
    refine V_get (pc := 36) X fl_X2_19 dX2_make_36 hE4.1 (hE4.f 2) ?_
    refine V_aload_n (pc := 39) X 1 dX2_make_39 rfl ?_
    refine V_callL (pc := 40) X (Or.inl (hE4.l 2)) _ (c_add (x := p) (hE4.l 2) (by rw [p4.1]; omega) (by have := o2.2.2.2; omega) (fun y hy => by rw [o2.1] at hy; rw [o2.2.1.kind hy]; omega)) cw_X2_66 (Q.room (by decide) (by decide)) rfl (Nat.le_of_ble_eq_true rfl) rfl (by have := gcap_inc (n := (qL h4 (g 2)).length) (c := qC h4 (g 2)) (by rw [o2.1]; omega); omega) dX2_make_40 (fun _ _ z => z.elim) ?_
    rintro v40 h40 ⟨rfl, e40⟩
    rw [e40, o2.1]
    simp only [Option.toList_some, List.cons_append, List.nil_append]
    refine V.less (b' := 1010) (by have := gcap_inc (n := R2.length) (c := qC h4 (g 2)) (by omega); omega) ?_
    refine V_pop (pc := 43) X dX2_make_43 rfl ?_
    refine V_aload_n (pc := 44) X 0 dX2_make_44 rfl ?_
    refine V_callV (pc := 45) X clk2 (by decide) z5.1.1 _ (c_sendM z5.1 z5.2.2.2.2.2.2 L52 O52 (Nat.le_of_ble_eq_true rfl) ((F5.L (hE4.k 4) n42).trans (ud4.1.trans hU)) (fun u hu => by have := hUk u hu; exact (F4.seq (F5.mono (fun a _ y => by rw [y]; exact hE0.o 2))).K this (by decide)) hUl (by rw [F5.C (hE4.k 4) n42, ud4.2.1]; exact hUc) he) cw_X2_70 (Q.room (by decide) (by decide)) rfl (Nat.le_of_ble_eq_true rfl) rfl (by omega) dX2_make_45 (fun _ _ z => z.elim) ?_
    rintro v45 h45 ⟨rfl, m, m0, m1, m2, m3, m4⟩
    simp only [Option.toList_none, List.nil_append]
    refine V_goto (pc := 48) X 60 dX2_make_48 (by decide) ?_
    refine V_vret (pc := 60) X Q rfl dX2_make_60 ?_
    first
    | (have F5 : Fr (fun a => a = g 3) h4 (sL h4 (g 3) (R3 ++ [p]) (gcap R3.length (qC h4 (g 3)))) := Fr_sL rfl
       have n43 : ¬ g 4 = g 3 := hE4.ne (by decide) (by decide) (by decide) (by decide) (by decide)
       have n53 : ¬ g 5 = g 3 := hE4.ne (by decide) (by decide) (by decide) (by decide) (by decide)
       refine ⟨rfl, ?_, ⟨?_, Or.inl ⟨if_neg e0, ?_⟩⟩, (F5.L (hE4.k 5) n53).trans ud4.2.2.1, (F5.C (hE4.k 5) n53).trans ud4.2.2.2, F4.trans F5 (fun _ _ y => y) (fun a _ y => by rw [y]; exact hE0.o 3)⟩
       · unfold mak
         dsimp only
         rw [if_neg e0, if_neg e0]
         exact z4.lists (F5.mono (fun a _ y => Or.inr y)) (o2.fr F5 (hE4.k 2) (hE4.ne (by decide) (by decide) (by decide) (by decide) (by decide)) (fun r hr y => by have := o2.2.1.kind hr; have := hE4.l 3; rw [← y] at this; omega)) ⟨by rw [qL_sL, if_pos rfl], (o3.2.1.fr F5 (fun r hr y => by have := o3.2.1.kind hr; have := hE4.l 3; rw [← y] at this; omega)).app (OPs.cons (p4.fr F5 (fun y => by have := p4.1; have := hE4.l 3; rw [← y] at this; omega)) (OPs.nil _ _)), fun r hr => by
           rcases List.mem_append.mp hr with hr | hr
           · exact F5.O (by rw [o3.2.1.kind hr]; decide) (o3.2.2.1 r hr)
           · rw [show r = p by simpa using hr]; exact F5.O (by rw [p4.1]; decide) po4, by rw [qC_sL, if_pos rfl]; exact Nat.le_trans (gcap_max (by omega)) (by have := o3.2.2.2; omega)⟩ (by
           rw [← List.append_assoc]
           refine List.nodup_append.mpr ⟨nd, by simp, fun a ha b hb y => ?_⟩
           have hbp : b = p := by simpa using hb
           rw [y, hbp] at ha
           exact (List.mem_append.mp ha).elim hp2 hp3)
       · rw [F5.C (hE4.k 4) n43, ud4.2.1]; exact hUc
       · exact (F5.L (hE4.k 4) n43).trans (ud4.1.trans hU))
    | (refine ⟨rfl, ?_, ⟨m3, Or.inr ⟨?_, m, ?_, ?_, m2⟩⟩, (m4.L (z5.1.k 5) (hE4.ne (by decide) (by decide) (by decide) (by decide) (by decide))).trans ((F5.L (hE4.k 5) n52).trans ud4.2.2.1), (m4.C (z5.1.k 5) (hE4.ne (by decide) (by decide) (by decide) (by decide) (by decide))).trans ((F5.C (hE4.k 5) n52).trans ud4.2.2.2), (F4.trans F5 (fun _ _ y => y) (fun a _ y => by rw [y]; exact hE0.o 2)).trans m4 (fun _ _ y => y) (fun a _ y => by rw [y]; exact hE0.o 4)⟩
       · unfold mak
         dsimp only
         rw [if_pos e0, if_pos e0]
         exact z5.up m4 (fun a _ y => Or.inl y)
       · rw [if_pos e0]; simp
       · rcases Nat.eq_zero_or_pos (qK h m) with y | y
         · exact y
         · have := (F4.trans F5 (U := fun _ => True) (fun _ _ _ => trivial) (fun _ _ _ => trivial)).K (a := m) rfl (by omega); omega
       · rw [if_pos e0]; exact m1)
theorem c_sendRun {E : EV} {la : Nat → Nat} {dm : Nat → Prop} {h : AH} {e : Nat} {g : Nat → Nat} {x : EQ} {U : List Nat} (z : ER la h e g x) (hw : WE dm x) (he : e ≤ 1) (hU : qL h (g 4) = U) (hUk : ∀ u ∈ U, qK h u = 6) (hUl : U.length ≤ 200) (hUc : qC h (g 4) ≤ 301) : Ct E yX2_sendRun cX2_sendRun 3 none 9 1312 [.ref (g 0)] h (fun v h1 => v = none ∧ ER la h1 e g (sru x) ∧ snt la h h1 e g x.2.2.2.2.2.2 U (x.2.2.1.take (rln x.2.2.1)) ∧ qL h1 (g 5) = qL h (g 5) ∧ qC h1 (g 5) = qC h (g 5) ∧ Fr (fun a => own h a = te e) h h1) noX := by
  refine Ct_of RX2 (by decide +kernel) rfl (Nat.le_of_ble_eq_true rfl) (fun Γ X nt Q hin => ?_)
  obtain ⟨xs, S, W, K, cu, mk, rv⟩ := x
  have hE := z.1
  obtain ⟨R2, R3, o2, o3, nd⟩ := z.2.2.1
  dsimp only at o2 o3
  have nd3 := (List.nodup_append.mp nd).2.1
  have wW : W.length ≤ 200 := hw.2.2.1.1
  have wW2 : ∀ o ∈ W, wO dm o := hw.2.2.1.2
  have hR3 := o3.2.1.1
  have n32 : ¬ g 3 = g 2 := hE.ne (by decide) (by decide) (by decide) (by decide) (by decide)
  have F0 : Fr (fun a => a = g 2 ∨ a = g 3) h (sL h (g 2) [] (qC h (g 2))) := Fr_sL (Or.inl rfl)
  have nk : ∀ r, qK h r ≠ 11 → ¬ (r = g 2 ∨ r = g 3) := fun r k y => y.elim (fun y => k (by rw [y]; exact hE.l 2)) (fun y => k (by rw [y]; exact hE.l 3))
  have hE1 := hE.fr F0 (nk _ (by rw [hE.1]; decide))
  have O31 := o3.2.1.fr F0 (fun r hr => nk r (by rw [o3.2.1.kind hr]; decide))
  have L31 : qL (sL h (g 2) [] (qC h (g 2))) (g 3) = R3 := by rw [qL_sL, if_neg n32]; exact o3.1
  have hn : rln W ≤ W.length := rln_le W
  have hel : ∀ y ∈ R3, qK h y = 7 := fun y hy => o3.2.1.kind hy
  refine V_aload_n (pc := 0) X 0 dX2_sendRun_0 rfl ?_
  refine V_get (pc := 1) X fl_X2_19 dX2_sendRun_1 hE.1 (hE.f 2) ?_
  refine V_callL (pc := 4) X (Or.inl (hE.l 2)) _ (c_clear (hE.l 2)) cw_X2_130 (Q.room (by decide) (by decide)) rfl (Nat.le_of_ble_eq_true rfl) rfl (by omega) dX2_sendRun_4 (fun _ _ z => z.elim) ?_
  rintro v4 h4 ⟨rfl, rfl⟩
  simp only [Option.toList_none, List.nil_append]
  refine V_aload_n (pc := 7) X 0 dX2_sendRun_7 rfl ?_
  refine V_callV (pc := 8) X clk2 (by decide) hE1.1 _ (c_firstRun hE1 L31 O31 (fun o ho => by have := wW2 o ho; unfold wO at this; omega) (by omega)) cw_X2_133 (Q.room (by decide) (by decide)) rfl (Nat.le_of_ble_eq_true rfl) rfl (by omega) dX2_sendRun_8 (fun _ _ z => z.elim) ?_
  rintro v8 h8 ⟨rfl, e8⟩
  rw [e8]
  simp only [Option.toList_some, List.cons_append, List.nil_append]
  refine V_istore_n (pc := 11) X [(1, .int _), (0, .ref _)] dX2_sendRun_11 rfl (by decide) rfl ?_
  refine V_iconst (pc := 12) (v := 0) X dX2_sendRun_12 (by decide) ?_
  refine V_istore_n (pc := 13) X [(2, .int _), (1, .int _), (0, .ref _)] dX2_sendRun_13 rfl (by decide) rfl ?_
  have key : ∀ (n i : Nat), rln W - i < n → i ≤ rln W → ∀ (hr : AH) (d : Nat), qL hr (g 2) = R3.take i → qC hr (g 2) = d → d ≤ 301 → qL hr (g 3) = R3.drop i → qC hr (g 3) = qC h (g 3) → Fr (fun a => a = g 2 ∨ a = g 3) h hr → V E Γ (301 - d + 1010) hr 14 [(2, .int (nI i)), (1, .int (nI (rln W))), (0, .ref (g 0))] [] := by
    intro n
    induction n with
    | zero => exact fun i hn => absurd hn (Nat.not_lt_zero _)
    | succ n ih =>
      intro i hn hi hr d r1 r2 r3 r4 r5 r6
      have hE2 := hE.fr r6 (nk _ (by rw [hE.1]; decide))
      refine V_iload_n (pc := 14) X 0 dX2_sendRun_14 rfl ?_
      refine V_iload_n (pc := 15) X 1 dX2_sendRun_15 rfl ?_
      refine V_icmp_ge (pc := 16) X 54 dX2_sendRun_16 (by decide) (fun c16 => ?_) (fun c16 => ?_)
      · have hie : ¬ i < rln W := fun z => nI_ge z (by omega) c16
        refine V_aload_n (pc := 54) X 2 dX2_sendRun_54 rfl ?_
        have hii : i = rln W := by omega
        subst hii
        have nd4 : (R3.take (rln W) ++ R3.drop (rln W)).Nodup := by rw [List.take_append_drop]; exact nd3
        have O2' : OPs la hr (R3.take (rln W)) (W.take (rln W)) := ⟨by rw [List.length_take, List.length_take, hR3], fun j r o a b => by
          have hj := (List.getElem?_eq_some_iff.mp a).1
          rw [List.length_take] at hj
          rw [List.getElem?_take_of_lt (by omega)] at a b
          exact (o3.2.1.2 j r o a b).fr r6 (nk r (by rw [hel r (List.mem_of_getElem? a)]; decide))⟩
        have O3' : OPs la hr (R3.drop (rln W)) (W.drop (rln W)) := ⟨by rw [List.length_drop, List.length_drop, hR3], fun j r o a b => by
          rw [List.getElem?_drop] at a b
          exact (o3.2.1.2 _ r o a b).fr r6 (nk r (by rw [hel r (List.mem_of_getElem? a)]; decide))⟩
        have w3 : ∀ r ∈ R3, own hr r = te e := fun r hr => r6.O (by rw [hel r hr]; decide) (o3.2.2.1 r hr)
        have z2 : ER la hr e g (xs, W.take (rln W), W.drop (rln W), K, cu, mk, rv) := z.lists r6 ⟨r1, O2', fun r hr => w3 r (List.mem_of_mem_take hr), by omega⟩ ⟨r4, O3', fun r hr => w3 r (List.mem_of_mem_drop hr), by rw [r5]; exact o3.2.2.2⟩ nd4
        have n4 : ∀ i, 4 ≤ i → i ≤ 5 → ¬ (g i = g 2 ∨ g i = g 3) := fun i a b y => y.elim (hE.ne (by omega) (by omega) (by decide) (by decide) (by omega)) (hE.ne (by omega) (by omega) (by decide) (by decide) (by omega))
        have L4 : qL hr (g 4) = U := (r6.L (hE.k 4) (n4 4 (by decide) (by decide))).trans hU
        have C4 : qC hr (g 4) ≤ 301 := by rw [r6.C (hE.k 4) (n4 4 (by decide) (by decide))]; exact hUc
        have L5 := r6.L (hE.k 5) (n4 5 (by decide) (by decide))
        have C5 := r6.C (hE.k 5) (n4 5 (by decide) (by decide))
        have F6 : Fr (fun a => own h a = te e) h hr := r6.mono (fun a _ y => y.elim (fun y => by rw [y]; exact hE.o 2) (fun y => by rw [y]; exact hE.o 3))
        have hTW : R3.take (rln W) = [] ↔ W.take (rln W) = [] := by rw [← List.length_eq_zero_iff, ← List.length_eq_zero_iff, O2'.1]
        refine V_get (pc := 55) X fl_X2_19 dX2_sendRun_55 hE2.1 (hE2.f 2) ?_
        refine V_callL (pc := 58) X (Or.inl (hE2.l 2)) _ (c_isEmpty (hE2.l 2) (by rw [r1, List.length_take]; omega)) cw_X2_62 (Q.room (by decide) (by decide)) rfl (Nat.le_of_ble_eq_true rfl) rfl (by omega) dX2_sendRun_58 (fun _ _ z => z.elim) ?_
        rintro v58 h58 ⟨rfl, e58⟩
        rw [e58, r1]
        simp only [Option.toList_some, List.cons_append, List.nil_append]
        refine V_if_ne (pc := 61) X 68 dX2_sendRun_61 (by decide) (fun c61 => ?_) (fun c61 => ?_)
        · have e0 : W.take (rln W) = [] := by
            by_cases y : R3.take (rln W) = []
            · exact hTW.mp y
            · rw [if_neg y] at c61; exact absurd rfl c61
          refine V_vret (pc := 68) X Q rfl dX2_sendRun_68 ?_
          first
          | exact ⟨rfl, z2, ⟨C4, Or.inl ⟨e0, L4⟩⟩, L5, C5, F6⟩
          | (have n54 : ¬ g 5 = g 4 := hE.ne (by decide) (by decide) (by decide) (by decide) (by decide)
             refine ⟨rfl, z2.up m4 (fun a _ y => Or.inl y), ⟨m3, Or.inr ⟨e0, m, ?_, m1, m2⟩⟩, (m4.L (z2.1.k 5) n54).trans L5, (m4.C (z2.1.k 5) n54).trans C5, F6.trans m4 (fun _ _ y => y) (fun a _ y => by rw [y]; exact hE.o 4)⟩
             rcases Nat.eq_zero_or_pos (qK h m) with y | y
             · exact y
             · have := F6.K (a := m) rfl (by omega); omega)
        · have e0 : ¬ W.take (rln W) = [] := fun y => by rw [if_pos (hTW.mpr y)] at c61; exact absurd c61 (by decide)
          refine V.less (b' := 1010) (by omega) ?_
          refine V_aload_n (pc := 64) X 2 dX2_sendRun_64 rfl ?_
          refine V_callV (pc := 65) X clk2 (by decide) hE2.1 _ (c_sendM z2.1 z2.2.2.2.2.2.2 r1 O2' (by rw [List.length_take]; omega) L4 (fun u hu => F6.K (hUk u hu) (by decide)) hUl C4 he) cw_X2_70 (Q.room (by decide) (by decide)) rfl (Nat.le_of_ble_eq_true rfl) rfl (by omega) dX2_sendRun_65 (fun _ _ z => z.elim) ?_
          rintro v65 h65 ⟨rfl, m, m0, m1, m2, m3, m4⟩
          simp only [Option.toList_none, List.nil_append]
          refine V_vret (pc := 68) X Q rfl dX2_sendRun_68 ?_
          first
          | exact ⟨rfl, z2, ⟨C4, Or.inl ⟨e0, L4⟩⟩, L5, C5, F6⟩
          | (have n54 : ¬ g 5 = g 4 := hE.ne (by decide) (by decide) (by decide) (by decide) (by decide)
             refine ⟨rfl, z2.up m4 (fun a _ y => Or.inl y), ⟨m3, Or.inr ⟨e0, m, ?_, m1, m2⟩⟩, (m4.L (z2.1.k 5) n54).trans L5, (m4.C (z2.1.k 5) n54).trans C5, F6.trans m4 (fun _ _ y => y) (fun a _ y => by rw [y]; exact hE.o 4)⟩
             rcases Nat.eq_zero_or_pos (qK h m) with y | y
             · exact y
             · have := F6.K (a := m) rfl (by omega); omega)
      · have hlt : i < rln W := by
          rcases Nat.lt_or_ge i (rln W) with z | z
          · exact z
          · exact absurd (nI_le z (by omega)) c16
        obtain ⟨r, hr1⟩ : ∃ r, R3[i]? = some r := ⟨_, List.getElem?_eq_getElem (by omega)⟩
        have hdr : R3.drop i = r :: R3.drop (i + 1) := drop_at hr1
        have krh : qK h r = 7 := hel r (List.mem_of_getElem? hr1)
        have kr := r6.K krh (by decide)
        refine V_aload_n (pc := 19) X 2 dX2_sendRun_19 rfl ?_
        refine V_get (pc := 20) X fl_X2_23 dX2_sendRun_20 hE2.1 (hE2.f 3) ?_
        refine V_callL (pc := 23) X (Or.inl (hE2.l 3)) _ (c_isEmpty (hE2.l 3) (by rw [r4, List.length_drop]; omega)) cw_X2_62 (Q.room (by decide) (by decide)) rfl (Nat.le_of_ble_eq_true rfl) rfl (by omega) dX2_sendRun_23 (fun _ _ z => z.elim) ?_
        rintro v23 h23 ⟨rfl, e23⟩
        rw [e23, r4]
        simp only [Option.toList_some, List.cons_append, List.nil_append]
        refine V_if_ne (pc := 26) X 54 dX2_sendRun_26 (by decide) (fun c26 => ?_) (fun c26 => ?_)
        · rw [if_neg (by rw [hdr]; exact List.cons_ne_nil _ _)] at c26
          exact absurd rfl c26
        · refine V_aload_n (pc := 29) X 2 dX2_sendRun_29 rfl ?_
          refine V_get (pc := 30) X fl_X2_19 dX2_sendRun_30 hE2.1 (hE2.f 2) ?_
          refine V_aload_n (pc := 33) X 2 dX2_sendRun_33 rfl ?_
          refine V_get (pc := 34) X fl_X2_23 dX2_sendRun_34 hE2.1 (hE2.f 3) ?_
          refine V_iconst (pc := 37) (v := 0) X dX2_sendRun_37 (by decide) ?_
          refine V_callL (pc := 38) X (Or.inl (hE2.l 3)) _ (c_remove (i := 0) (x := r) (hE2.l 3) (by rw [r4, hdr]; rfl) (fun y hy => by rw [r4] at hy; rw [r6.K (hel y (List.mem_of_mem_drop hy)) (by decide)]; omega)) cw_X2_123 (Q.room (by decide) (by decide)) rfl (Nat.le_of_ble_eq_true rfl) rfl (by omega) dX2_sendRun_38 (fun _ _ z => z.elim) ?_
          rintro v38 h38 ⟨rfl, e38⟩
          rw [e38, r4, show lDel (R3.drop i) 0 = R3.drop (i + 1) by rw [hdr]; rfl]
          simp only [Option.toList_some, List.cons_append, List.nil_append]
          have F7 : Fr (fun a => a = g 2 ∨ a = g 3) hr (sL hr (g 3) (R3.drop (i + 1)) (qC hr (g 3))) := Fr_sL (Or.inr rfl)
          have k2 := F7.K (hE2.l 2) (by decide)
          have L72 : qL (sL hr (g 3) (R3.drop (i + 1)) (qC hr (g 3))) (g 2) = R3.take i := by rw [qL_sL, if_neg (fun y => n32 y.symm)]; exact r1
          have C72 : qC (sL hr (g 3) (R3.drop (i + 1)) (qC hr (g 3))) (g 2) = d := by rw [qC_sL, if_neg (fun y => n32 y.symm)]; exact r2
          have hgm : gcap i d ≤ 301 := Nat.le_trans (gcap_max (by omega)) (by omega)
          have hgl := gcap_le i d
          have htl : (R3.take i).length = i := by rw [List.length_take]; omega
          refine V_cast (pc := 41) X clk6 (by decide) ck_X2_53 kr dX2_sendRun_41 ?_
          refine V_callL (pc := 44) X (Or.inl k2) _ (c_add (x := r) k2 (by rw [F7.K kr (by decide)]; omega) (by rw [C72]; omega) (fun y hy => by rw [L72] at hy; rw [F7.K (r6.K (hel y (List.mem_of_mem_take hy)) (by decide)) (by decide)]; omega)) cw_X2_66 (Q.room (by decide) (by decide)) rfl (Nat.le_of_ble_eq_true rfl) rfl (by rw [L72, C72, htl]; omega) dX2_sendRun_44 (fun _ _ z => z.elim) ?_
          rintro v44 h44 ⟨rfl, e44⟩
          rw [e44, L72, C72, htl]
          simp only [Option.toList_some, List.cons_append, List.nil_append]
          refine V_pop (pc := 47) X dX2_sendRun_47 rfl ?_
          refine V_inc1 (pc := 48) X 0 [(2, .int _), (1, .int _), (0, .ref _)] dX2_sendRun_48 rfl (by decide) rfl ?_
          rw [nI_1]
          refine V_goto (pc := 51) X 14 dX2_sendRun_51 (by decide) ?_
          refine V.less (b' := 301 - gcap i d + 1010) (by omega) ?_
          exact ih (i + 1) (by omega) (by omega) _ (gcap i d) (by rw [qL_sL, if_pos rfl, List.take_add_one, hr1]; rfl) (by rw [qC_sL, if_pos rfl]) hgm (by rw [qL_sL, if_neg n32, qL_sL, if_pos rfl]) (by rw [qC_sL, if_neg n32, qC_sL, if_pos rfl]; exact r5) ((r6.seq F7).seq (Fr_sL (Or.inl rfl)))
  refine V.less (b' := 301 - qC h (g 2) + 1010) (by omega) ?_
  exact key (rln W + 1) 0 (by omega) (Nat.zero_le _) _ _ (by rw [qL_sL, if_pos rfl]; rfl) (by rw [qC_sL, if_pos rfl]) o2.2.2.2 L31 (by rw [qC_sL, if_neg n32]) F0
