/-! WRITING: THE REST -/
theorem fnd_lt : ∀ (xs : List Nat) (x k i : Nat), fnd xs x k = some i → i < xs.length + k
  | [], _, _, _, h => by simp [fnd] at h
  | y :: ys, x, k, i, h => by
    unfold fnd at h
    split at h
    · have : k = i := Option.some.inj h
      simp
      omega
    · have := fnd_lt ys x (k + 1) i h
      simp
      omega
theorem WE.drop {dm : Nat → Prop} {x : EQ} (w : WE dm x) : WE dm (eP x (eK x).dropLast) := ⟨w.1, w.2.1, w.2.2.1, ⟨by
  show (x.2.2.2.1.dropLast).length ≤ 200
  rw [List.length_dropLast]
  have := w.2.2.2.1.1
  omega, fun k hk => w.2.2.2.1.2 k (List.dropLast_subset _ hk)⟩, w.2.2.2.2⟩
theorem WS'.drop {s : SQ} (w : WS' s) {e : Nat} (he : e ≤ 1) : WS' (drpK s e) := by
  obtain ⟨w1, w2⟩ := w
  refine ⟨fun i hi => ?_, w2⟩
  obtain ⟨y1, y2, y3, y4⟩ := w1 i hi
  by_cases ei : i = e
  · subst ei
    have ez : zE (drpK s i) i = eP (zE s i) (eK (zE s i)).dropLast := zu_s
    exact ⟨by rw [ez]; exact y1.drop, y2, y3, by rw [ez]; exact y4⟩
  · have ez : zE (drpK s e) i = zE s i := zu_n ei
    exact ⟨by rw [ez]; exact y1, y2, y3, by rw [ez]; exact y4⟩
def sCur (s : SQ) (e i : Nat) : SQ := zsE s e ((zE s e).1, (zE s e).2.1, (zE s e).2.2.1, (zE s e).2.2.2.1, i, (zE s e).2.2.2.2.2)
theorem c_removeKept {E : EV} {h : AH} {q : Nat} {G : GQ} {s : SQ} (z : RC h q G s) (w : WS' s) {e p y : Nat} (he : e ≤ 1) (hy : (eX (zE s e))[p]? = some y) : Ct E yX8_removeKept cX8_removeKept 4 (some .char) 11 1322 [.ref q, .ref (G.2.1 e 0), .int (nI p)] h (fun v h1 => v = some (.int (nI (zT s y).1)) ∧ RC h1 q G (sDel s e p y) ∧ FC h h1) noX := by
  refine Ct_of RX8 (by decide +kernel) rfl (Nat.le_of_ble_eq_true rfl) (fun Γ X nt Q hin => ?_)
  have hKl : (eK (zE s e)).length ≤ 200 := (w.1 e he).1.2.2.2.1.1
  obtain ⟨c, hx, hc⟩ := z.tx he
  have hl : (eX (zE s e)).length ≤ 200 := (w.1 e he).1.1.1
  have hp : p < (eX (zE s e)).length := (List.getElem?_eq_some_iff.mp hy).1
  have hyL : y ∈ zL s := (w.1 e he).1.1.2 y (List.mem_of_getElem? hy)
  have lt := z.lt w he y (List.mem_of_getElem? hy)
  have w1 := (w.1 e he).1
  have hU1 := (w.1 e he).2.1
  have z1 := z
  let oo : SO := (2, p, y, e)
  have wo : wO (fun x => x ∈ zL s) (2, p, y, e) := ⟨show (2 : Nat) ≤ 2 by decide, show p < 2 ^ 28 by omega, he, hyL⟩
  refine V_aload_n (pc := 0) X 1 dX8_removeKept_0 rfl ?_
  refine V_get (pc := 1) X fl_X8_50 dX8_removeKept_1 (z.es he).1 ((z.es he).f 1) ?_
  refine V_get (pc := 4) X fl_X8_268 dX8_removeKept_4 hx.1 hx.2.1 ?_
  refine V_iload_n (pc := 7) X 2 dX8_removeKept_7 rfl ?_
  refine V_callL (pc := 8) X (Or.inl hx.2.2.1) _ (c_get (i := p) (x := G.1 y) hx.2.2.1 (hx.get hy) (by rw [hx.len]; omega)) cw_X8_107 (Q.room (by decide) (by decide)) rfl (Nat.le_of_ble_eq_true rfl) rfl (by omega) dX8_removeKept_8 (fun _ _ z => z.elim) ?_
  rintro v8 h8 ⟨rfl, e8⟩
  rw [e8]
  simp only [Option.toList_some, List.cons_append, List.nil_append]
  refine V_cast (pc := 11) X clk4 (by decide) ck_X8_181 lt.1 dX8_removeKept_11 ?_
  refine V_astore_n (pc := 14) X [(3, .ref _), (0, .ref _), (1, .ref _), (2, .int _)] dX8_removeKept_14 rfl (by decide) rfl ?_
  refine V_aload_n (pc := 15) X 2 dX8_removeKept_15 rfl ?_
  refine V_new (pc := 16) (u := 3) X clk6 (by decide) nw_X8_220 (by decide) (by omega) dX8_removeKept_16 (fun ad hp0 => ?_)
  have Fp0 : Fr (fun _ => False) h (nO h ad 7) := Fr_nO hp0
  have zp := z1.fa Fp0
  refine V_dup (pc := 19) X dX8_removeKept_19 rfl ?_
  refine V_aload_n (pc := 20) X 2 dX8_removeKept_20 rfl ?_
  refine V_get (pc := 21) X fl_X8_164 dX8_removeKept_21 (zp.es he).1 (zp.es he).2.1 ?_
  refine V_bipush (pc := 24) (v := 100) X dX8_removeKept_24 (by decide) ?_
  refine V_iload_n (pc := 26) X 3 dX8_removeKept_26 rfl ?_
  refine V_aload_n (pc := 27) X 0 dX8_removeKept_27 rfl ?_
  refine V_callI (pc := 28) X _ (c_oper (by rw [qK_nO, if_pos rfl]) (by decide)) cw_X8_278 (Q.room (by decide) (by decide)) rfl (Nat.le_of_ble_eq_true rfl) rfl (by omega) dX8_removeKept_28 ?_
  rintro v28 h28 ⟨rfl, e28⟩
  simp only [Option.toList_none, List.nil_append]
  have ob : OP G.1 h28 ad (2, p, y, e) ∧ ∀ S, Fr S h h28 := by rw [e28]; exact OP_born hp0 2 p y e
  refine V_own ad (te e) ?_
  have F2 : Fr (fun _ => False) h (sF h28 9999 ad (te e)) := (ob.2 _).own hp0
  have op2 : OP G.1 (sF h28 9999 ad (te e)) ad (2, p, y, e) := OP.own ob.1
  have po2 : own (sF h28 9999 ad (te e)) ad = te e := own_own
  obtain ⟨h2, eh2⟩ : ∃ h2, h2 = sF h28 9999 ad (te e) := ⟨_, rfl⟩
  rw [← eh2] at F2 op2 po2 ⊢
  have z2 := z1.fa F2
  obtain ⟨U0, u1, u2, u3, u4⟩ := z2.2.2.2.1.ms he
  refine V_callV (pc := 31) X clk2 (by decide) (z2.es he).1 _ (c_make (z2.e he) w1 (z2.km) op2 po2 ((z1.e he).notin F2 hp0) wo (show (2 : Nat) ≠ 0 by decide) he u1 u2 (by rw [u3]; exact Nat.le_trans hU1 (by decide)) u4) cw_X8_281 (Q.room (by decide) (by decide)) rfl (Nat.le_of_ble_eq_true rfl) rfl (by omega) dX8_removeKept_31 (fun _ _ z => z.elim) ?_
  rintro v31 h3 ⟨rfl, m1, m2, m3, m4, m5⟩
  simp only [Option.toList_none, List.nil_append]
  obtain ⟨z3, fc3⟩ := z2.sent he m1 m5 u1 m2 (fun Hs a => m3.trans a) m4
  have fc3' : FC h h3 := (FC.refl h).seq ((FC.fa F2).seq fc3)
  refine V_aload_n (pc := 34) X 1 dX8_removeKept_34 rfl ?_
  refine V_dup (pc := 35) X dX8_removeKept_35 rfl ?_
  refine V_get (pc := 36) X fl_X8_42 dX8_removeKept_36 z3.k (show _ = Value.int (nI (zM s)) from z3.1.2.2.2.2.2.2.1) ?_
  refine V_iconst (pc := 39) (v := 1) X dX8_removeKept_39 (by decide) ?_
  refine V_iadd (pc := 40) X dX8_removeKept_40 ?_
  rw [nI_1]
  refine V_put (pc := 41) X fl_X8_42 dX8_removeKept_41 z3.k ⟨rfl, rfl⟩ ?_
  obtain ⟨z4, fc4⟩ := z3.made (zM s + 1)
  obtain ⟨h4, eh4⟩ : ∃ h4, h4 = sF h3 805 q (.int (nI (zM s + 1))) := ⟨_, rfl⟩
  rw [← eh4] at z4 fc4 ⊢
  have fc4' : FC h h4 := fc3'.seq fc4
  refine V_aload_n (pc := 44) X 2 dX8_removeKept_44 rfl ?_
  refine V_get (pc := 45) X fl_X8_98 dX8_removeKept_45 (z4.es he).1 ((z4.es he).f 6) ?_
  refine V_new (pc := 48) (u := 3) X clk3 (by decide) nw_X8_111 (by decide) (by omega) dX8_removeKept_48 (fun k hk0 => ?_)
  refine V_dup (pc := 51) X dX8_removeKept_51 rfl ?_
  refine V_iconst (pc := 52) (v := 0) X dX8_removeKept_52 (by decide) ?_
  refine V_aload_n (pc := 53) X 0 dX8_removeKept_53 rfl ?_
  refine V_iload_n (pc := 54) X 3 dX8_removeKept_54 rfl ?_
  refine V_callI (pc := 55) X _ (c_kept (by rw [qK_nO, if_pos rfl]) (by decide)) cw_X8_285 (Q.room (by decide) (by decide)) rfl (Nat.le_of_ble_eq_true rfl) rfl (by omega) dX8_removeKept_55 ?_
  rintro v55 h55 ⟨rfl, e55⟩
  simp only [Option.toList_none, List.nil_append]
  obtain ⟨kk, Fk⟩ := kp_of (la := G.1) (x := y) (p := p) hk0 (show _ = nI 0 from rfl) e55 (te e)
  refine V_own k (te e) ?_
  have ko : own (sF h55 9999 k (te e)) k = te e := own_own
  obtain ⟨h5, eh5⟩ : ∃ h5, h5 = sF h55 9999 k (te e) := ⟨_, rfl⟩
  rw [← eh5] at kk Fk ko ⊢
  have z5 := z4.fa Fk
  obtain ⟨R, q1, q2, q3, q4, q5⟩ := (z5.e he).2.2.2.1
  have hRl : R.length ≤ 200 := by
    rw [q2.1]
    refine Nat.le_trans (Nat.le_of_eq (congrArg (fun x : EQ => x.2.2.2.1.length) (zu_s (v := mak (zE s e) oo)))) ?_
    show ((zE s e).2.2.2.1.map _).length ≤ 200
    rw [List.length_map]; exact hKl
  have hkR : k ∉ R := fun y => by
    obtain ⟨R', r1, r2, -⟩ := (z4.e he).2.2.2.1
    have : R = R' := q1.symm.trans ((Fk.L ((z4.es he).k 6) (fun y => y)).trans r1)
    rw [this] at y
    have := r2.kind y
    omega
  obtain ⟨z6, fc6⟩ := z5.keeps he q1 kk ko hkR hRl
  have k6 := (z5.es he).l 6
  refine V_callL (pc := 58) X (Or.inl k6) _ (c_add (x := k) k6 (by rw [kk.1]; omega) (by omega) (fun y hy => by rw [q1] at hy; rw [q2.kind hy]; omega)) cw_X8_150 (Q.room (by decide) (by decide)) rfl (Nat.le_of_ble_eq_true rfl) rfl (by have := gcap_inc (n := (qL h5 (G.2.1 e 6)).length) (c := qC h5 (G.2.1 e 6)) (by rw [q1]; exact hRl); omega) dX8_removeKept_58 (fun _ _ z => z.elim) ?_
  rintro v58 h58 ⟨rfl, e58⟩
  rw [e58, q1]
  simp only [Option.toList_some, List.cons_append, List.nil_append]
  refine V_pop (pc := 61) X dX8_removeKept_61 rfl ?_
  refine V_aload_n (pc := 62) X 0 dX8_removeKept_62 rfl ?_
  refine V_get (pc := 63) X fl_X8_180 dX8_removeKept_63 (z6.2.2.2.2.2.2.1 y hyL).1.1 (show _ = Value.int (nI (zT s y).1) from (z6.2.2.2.2.2.2.1 y hyL).1.2.1) ?_
  refine V_iret (pc := 66) X Q rfl (chr_ok lt.2.2.2.1) dX8_removeKept_66 ?_
  exact ⟨rfl, z6, fc4'.seq ((FC.fa Fk).seq fc6)⟩
theorem c_takeBack {E : EV} {h : AH} {q : Nat} {G : GQ} {s : SQ} (z : RC h q G s) (w : WS' s) {e n y : Nat} (he : e ≤ 1) (hn : (eK (zE s e)).length = n + 1) (hy : y ∈ zL s) : Ct E yX8_takeBack cX8_takeBack 5 (some .boolean) 11 1224 [.ref q, .ref (G.2.1 e 0), .int (nI n), .ref (G.1 y)] h (fun v h1 => ((fnd (eX (zE s e)) y 0 = none ∧ v = some (.int 0) ∧ RC h1 q G (drpK s e)) ∨ (∃ i, fnd (eX (zE s e)) y 0 = some i ∧ zM s < 200 ∧ v = some (.int 1) ∧ RC h1 q G (sUnI s e i y))) ∧ FC h h1) (fun N h1 => N = "java/lang/IllegalStateException" ∧ (∃ i, fnd (eX (zE s e)) y 0 = some i) ∧ ¬ zM s < 200 ∧ h1 = h) := by
  refine Ct_of RX8 (by decide +kernel) rfl (Nat.le_of_ble_eq_true rfl) (fun Γ X nt Q hin => ?_)
  obtain ⟨R, q1, q2, q3, q4, q5⟩ := (z.e he).2.2.2.1
  have hRn : R.length = n + 1 := q2.1.trans hn
  obtain ⟨zD, fcD⟩ := z.drops he q1 hRn
  obtain ⟨rk, hrk⟩ : ∃ r, R[n]? = some r := ⟨_, List.getElem?_eq_getElem (by omega)⟩
  have hKl : (eK (zE s e)).length ≤ 200 := (w.1 e he).1.2.2.2.1.1
  have hl : (eX (zE s e)).length ≤ 200 := (w.1 e he).1.1.1
  obtain ⟨c, hx, hc⟩ := z.tx he
  obtain ⟨hD, ehD⟩ : ∃ hD, hD = sL h (G.2.1 e 6) (lDel R n) (qC h (G.2.1 e 6)) := ⟨_, rfl⟩
  rw [← ehD] at zD fcD
  refine V_aload_n (pc := 0) X 1 dX8_takeBack_0 rfl ?_
  refine V_get (pc := 1) X fl_X8_50 dX8_takeBack_1 (z.es he).1 ((z.es he).f 1) ?_
  refine V_aload_n (pc := 4) X 3 dX8_takeBack_4 rfl ?_
  refine V_callV (pc := 5) X clk7 (by decide) hx.1 _ (c_posOf hx (fun x hx u => z.2.2.2.2.2.2.2 x ((w.1 e he).1.1.2 x hx) y hy u) (by omega)) cw_X8_288 (Q.room (by decide) (by decide)) rfl (Nat.le_of_ble_eq_true rfl) rfl (by omega) dX8_takeBack_5 (fun _ _ z => z.elim) ?_
  rintro v5 h5 ⟨rfl, e5⟩
  rw [e5]
  simp only [Option.toList_some, List.cons_append, List.nil_append]
  refine V_istore (pc := 8) X [(4, .int _), (0, .ref _), (1, .ref _), (2, .int _), (3, .ref _)] dX8_takeBack_8 (by decide) rfl ?_
  refine V_iload (pc := 10) X 0 dX8_takeBack_10 rfl ?_
  refine V_if_ge (pc := 12) X 26 dX8_takeBack_12 (by decide) (fun c12 => ?_) (fun c12 => ?_)
  · obtain ⟨i, hf⟩ : ∃ i, fnd (eX (zE s e)) y 0 = some i := by
      cases hh : fnd (eX (zE s e)) y 0 with
      | none => rw [hh] at c12; exact absurd c12 (by decide)
      | some i => exact ⟨i, rfl⟩
    have hil := fnd_lt _ _ _ _ hf
    refine V_aload_n (pc := 26) X 1 dX8_takeBack_26 rfl ?_
    refine V_callV (pc := 27) X clk8 (by decide) z.k _ (c_reqO z w.2.2.2.1) cw_X8_83 (Q.room (by decide) (by decide)) rfl (Nat.le_of_ble_eq_true rfl) rfl (by omega) dX8_takeBack_27 (fun N h9 y => VX_out X Q nt ⟨y.1, ⟨i, hf⟩, y.2.1, y.2.2⟩) ?_
    rintro v27 h27 ⟨rfl, e27, hM⟩
    rw [e27]
    simp only [Option.toList_none, List.nil_append]
    refine V_aload_n (pc := 30) X 2 dX8_takeBack_30 rfl ?_
    refine V_get (pc := 31) X fl_X8_98 dX8_takeBack_31 (z.es he).1 ((z.es he).f 6) ?_
    refine V_iload_n (pc := 34) X 3 dX8_takeBack_34 rfl ?_
    refine V_callL (pc := 35) X (Or.inl ((z.es he).l 6)) _ (c_remove (i := n) (x := rk) ((z.es he).l 6) (by rw [q1]; exact hrk) (fun y hy => by rw [q1] at hy; rw [q2.kind hy]; omega)) cw_X8_138 (Q.room (by decide) (by decide)) rfl (Nat.le_of_ble_eq_true rfl) rfl (by omega) dX8_takeBack_35 (fun _ _ z => z.elim) ?_
    rintro v35 h35 ⟨rfl, e35⟩
    rw [e35, q1]
    simp only [Option.toList_some, List.cons_append, List.nil_append]
    rw [← ehD, show oI (fnd (eX (zE s e)) y 0) = nI i by rw [hf]; rfl]
    have z1 := zD
    have w1 : WE (fun x => x ∈ zL (drpK s e)) (zE (drpK s e) e) := ((w.drop he).1 e he).1
    have hU1 := (w.1 e he).2.1
    have wo : wO (fun x => x ∈ zL (drpK s e)) (2, i, y, e) := ⟨show (2 : Nat) ≤ 2 by decide, show i < 2 ^ 28 by omega, he, hy⟩
    refine V_pop (pc := 38) X dX8_takeBack_38 rfl ?_
    refine V_aload_n (pc := 39) X 2 dX8_takeBack_39 rfl ?_
    refine V_new (pc := 40) (u := 3) X clk6 (by decide) nw_X8_220 (by decide) (by omega) dX8_takeBack_40 (fun ad hp0 => ?_)
    have Fp0 : Fr (fun _ => False) hD (nO hD ad 7) := Fr_nO hp0
    have zp := z1.fa Fp0
    refine V_dup (pc := 43) X dX8_takeBack_43 rfl ?_
    refine V_aload_n (pc := 44) X 2 dX8_takeBack_44 rfl ?_
    refine V_get (pc := 45) X fl_X8_164 dX8_takeBack_45 (zp.es he).1 (zp.es he).2.1 ?_
    refine V_bipush (pc := 48) (v := 100) X dX8_takeBack_48 (by decide) ?_
    refine V_iload (pc := 50) X 0 dX8_takeBack_50 rfl ?_
    refine V_aload_n (pc := 52) X 4 dX8_takeBack_52 rfl ?_
    refine V_callI (pc := 53) X _ (c_oper (by rw [qK_nO, if_pos rfl]) (by decide)) cw_X8_278 (Q.room (by decide) (by decide)) rfl (Nat.le_of_ble_eq_true rfl) rfl (by omega) dX8_takeBack_53 ?_
    rintro v53 h53 ⟨rfl, e53⟩
    simp only [Option.toList_none, List.nil_append]
    have ob : OP G.1 h53 ad (2, i, y, e) ∧ ∀ S, Fr S hD h53 := by rw [e53]; exact OP_born hp0 2 i y e
    refine V_own ad (te e) ?_
    have F2 : Fr (fun _ => False) hD (sF h53 9999 ad (te e)) := (ob.2 _).own hp0
    have op2 : OP G.1 (sF h53 9999 ad (te e)) ad (2, i, y, e) := OP.own ob.1
    have po2 : own (sF h53 9999 ad (te e)) ad = te e := own_own
    obtain ⟨h2, eh2⟩ : ∃ h2, h2 = sF h53 9999 ad (te e) := ⟨_, rfl⟩
    rw [← eh2] at F2 op2 po2 ⊢
    have z2 := z1.fa F2
    obtain ⟨U0, u1, u2, u3, u4⟩ := z2.2.2.2.1.ms he
    refine V_callV (pc := 56) X clk2 (by decide) (z2.es he).1 _ (c_make (z2.e he) w1 (z2.km) op2 po2 ((z1.e he).notin F2 hp0) wo (show (2 : Nat) ≠ 0 by decide) he u1 u2 (by rw [u3]; exact Nat.le_trans hU1 (by decide)) u4) cw_X8_281 (Q.room (by decide) (by decide)) rfl (Nat.le_of_ble_eq_true rfl) rfl (by omega) dX8_takeBack_56 (fun _ _ z => z.elim) ?_
    rintro v56 h3 ⟨rfl, m1, m2, m3, m4, m5⟩
    simp only [Option.toList_none, List.nil_append]
    obtain ⟨z3, fc3⟩ := z2.sent he m1 m5 u1 m2 (fun Hs a => m3.trans a) m4
    have fc3' : FC h h3 := fcD.seq ((FC.fa F2).seq fc3)
    refine V_aload_n (pc := 59) X 1 dX8_takeBack_59 rfl ?_
    refine V_dup (pc := 60) X dX8_takeBack_60 rfl ?_
    refine V_get (pc := 61) X fl_X8_42 dX8_takeBack_61 z3.k (show _ = Value.int (nI (zM s)) from z3.1.2.2.2.2.2.2.1) ?_
    refine V_iconst (pc := 64) (v := 1) X dX8_takeBack_64 (by decide) ?_
    refine V_iadd (pc := 65) X dX8_takeBack_65 ?_
    rw [nI_1]
    refine V_put (pc := 66) X fl_X8_42 dX8_takeBack_66 z3.k ⟨rfl, rfl⟩ ?_
    obtain ⟨z4, fc4⟩ := z3.made (zM s + 1)
    obtain ⟨h4, eh4⟩ : ∃ h4, h4 = sF h3 805 q (.int (nI (zM s + 1))) := ⟨_, rfl⟩
    rw [← eh4] at z4 fc4 ⊢
    have fc4' : FC h h4 := fc3'.seq fc4
    refine V_iconst (pc := 69) (v := 1) X dX8_takeBack_69 (by decide) ?_
    refine V_iret (pc := 70) X Q rfl rfl dX8_takeBack_70 ?_
    exact ⟨Or.inr ⟨i, hf, hM, rfl, z4⟩, fc4'⟩
  · have hf : fnd (eX (zE s e)) y 0 = none := by
      cases hh : fnd (eX (zE s e)) y 0 with
      | none => rfl
      | some i => rw [hh] at c12; exact absurd (nI_pos' (by have := fnd_lt _ _ _ _ hh; omega)) c12
    refine V_aload_n (pc := 15) X 2 dX8_takeBack_15 rfl ?_
    refine V_get (pc := 16) X fl_X8_98 dX8_takeBack_16 (z.es he).1 ((z.es he).f 6) ?_
    refine V_iload_n (pc := 19) X 3 dX8_takeBack_19 rfl ?_
    refine V_callL (pc := 20) X (Or.inl ((z.es he).l 6)) _ (c_remove (i := n) (x := rk) ((z.es he).l 6) (by rw [q1]; exact hrk) (fun y hy => by rw [q1] at hy; rw [q2.kind hy]; omega)) cw_X8_138 (Q.room (by decide) (by decide)) rfl (Nat.le_of_ble_eq_true rfl) rfl (by omega) dX8_takeBack_20 (fun _ _ z => z.elim) ?_
    rintro v20 h20 ⟨rfl, e20⟩
    rw [e20, q1]
    simp only [Option.toList_some, List.cons_append, List.nil_append]
    refine V_pop (pc := 23) X dX8_takeBack_23 rfl ?_
    refine V_iconst (pc := 24) (v := 0) X dX8_takeBack_24 (by decide) ?_
    refine V_iret (pc := 25) X Q rfl rfl dX8_takeBack_25 ?_
    rw [← ehD]
    exact ⟨Or.inl ⟨hf, rfl, zD⟩, fcD⟩
theorem c_putBack {E : EV} {h : AH} {q : Nat} {G : GQ} {s : SQ} (z : RC h q G s) (w : WS' s) {e n y p kd : Nat} (he : e ≤ 1) (hn : (eK (zE s e)).length = n + 1) (hk : KP G.1 h kd (0, y, p)) (hy : y ∈ zL s) (hp : p < 2 ^ 28) : Ct E yX8_putBack cX8_putBack 5 (some .boolean) 11 1224 [.ref q, .ref (G.2.1 e 0), .int (nI n), .ref kd] h (fun v h1 => (v = some (.int 1) ∧ (eX (zE s e)).length < 60 ∧ zM s < 200 ∧ ∃ la, RC h1 q (la, G.2) (sUnD s e p y)) ∧ FC h h1) (fun N h1 => N = "java/lang/IllegalStateException" ∧ ¬ ((eX (zE s e)).length < 60 ∧ zM s < 200) ∧ h1 = h) := by
  refine Ct_of RX8 (by decide +kernel) rfl (Nat.le_of_ble_eq_true rfl) (fun Γ X nt Q hin => ?_)
  obtain ⟨R, q1, q2, q3, q4, q5⟩ := (z.e he).2.2.2.1
  have hRn : R.length = n + 1 := q2.1.trans hn
  obtain ⟨zD, fcD⟩ := z.drops he q1 hRn
  obtain ⟨rk, hrk⟩ : ∃ r, R[n]? = some r := ⟨_, List.getElem?_eq_getElem (by omega)⟩
  have hKl : (eK (zE s e)).length ≤ 200 := (w.1 e he).1.2.2.2.1.1
  have hl : (eX (zE s e)).length ≤ 200 := (w.1 e he).1.1.1
  obtain ⟨c, hx, hc⟩ := z.tx he
  have hkD : KP G.1 (sL h (G.2.1 e 6) (lDel R n) (qC h (G.2.1 e 6))) kd (0, y, p) := hk
  obtain ⟨hD, ehD⟩ : ∃ hD, hD = sL h (G.2.1 e 6) (lDel R n) (qC h (G.2.1 e 6)) := ⟨_, rfl⟩
  rw [← ehD] at zD fcD hkD
  refine V_aload_n (pc := 0) X 0 dX8_putBack_0 rfl ?_
  refine V_aload_n (pc := 1) X 1 dX8_putBack_1 rfl ?_
  refine V_callV (pc := 2) X clk8 (by decide) z.k _ (c_reqR z w he) cw_X8_68 (Q.room (by decide) (by decide)) rfl (Nat.le_of_ble_eq_true rfl) rfl (by omega) dX8_putBack_2 (fun N h9 y => VX_out X Q nt y) ?_
  rintro v2 h2 ⟨rfl, e2, hl60, hM⟩
  rw [e2]
  simp only [Option.toList_none, List.nil_append]
  refine V_aload_n (pc := 5) X 1 dX8_putBack_5 rfl ?_
  refine V_get (pc := 6) X fl_X8_98 dX8_putBack_6 (z.es he).1 ((z.es he).f 6) ?_
  refine V_iload_n (pc := 9) X 2 dX8_putBack_9 rfl ?_
  refine V_callL (pc := 10) X (Or.inl ((z.es he).l 6)) _ (c_remove (i := n) (x := rk) ((z.es he).l 6) (by rw [q1]; exact hrk) (fun y hy => by rw [q1] at hy; rw [q2.kind hy]; omega)) cw_X8_138 (Q.room (by decide) (by decide)) rfl (Nat.le_of_ble_eq_true rfl) rfl (by omega) dX8_putBack_10 (fun _ _ z => z.elim) ?_
  rintro v10 h10 ⟨rfl, e10⟩
  rw [e10, q1]
  simp only [Option.toList_some, List.cons_append, List.nil_append]
  rw [← ehD]
  refine V_pop (pc := 13) X dX8_putBack_13 rfl ?_
  refine V_new (pc := 14) (u := 3) X clk4 (by decide) nw_X8_181 (by decide) (by omega) dX8_putBack_14 (fun a ha0 => ?_)
  have Fa0 : Fr (fun _ => False) hD (nO hD a 5) := Fr_nO ha0
  have za := zD.fa Fa0
  have z0 := zD
  have w0 := w.drop he
  have hka := hkD.fr Fa0 (fun y => y)
  have lty := (za.2.2.2.2.2.2.1 y hy).1
  have hc : (zT s y).1 < 127 := lty.2.2.2.1
  refine V_dup (pc := 17) X dX8_putBack_17 rfl ?_
  refine V_aload_n (pc := 18) X 3 dX8_putBack_18 rfl ?_
  refine V_get (pc := 19) X fl_X8_117 dX8_putBack_19 hka.1 hka.2.2.1 ?_
  refine V_get (pc := 22) X fl_X8_180 dX8_putBack_22 lty.1 lty.2.1 ?_
  refine V_aload_n (pc := 25) X 1 dX8_putBack_25 rfl ?_
  refine V_get (pc := 26) X fl_X8_164 dX8_putBack_26 (za.es he).1 (za.es he).2.1 ?_
  refine V_callI (pc := 29) X _ (c_letter (by rw [qK_nO, if_pos rfl]) (pk_charN (show (zT s y).1 < 65536 by omega))) cw_X8_275 (Q.room (by decide) (by decide)) rfl (Nat.le_of_ble_eq_true rfl) rfl (by omega) dX8_putBack_29 ?_
  rintro v29 h29 ⟨rfl, rfl⟩
  simp only [Option.toList_none, List.nil_append]
  have F1 : Fr (fun _ => False) hD (sF (sF (sF (nO hD a 5) 400 a (.int (nI (zT s y).1))) 401 a (.int (nI e))) 9999 a (.ref 30)) := (((((Fr_nO (S := fun b => b = a) ha0).seq (Fr_sF (f := 400) rfl)).seq (Fr_sF (f := 401) rfl)).mono (fun b hb y => hb (by rw [y]; exact ha0))).own ha0)
  refine V_own a (.ref 30) ?_
  have zL1 := z0.letter w0 F1 (c := (zT s y).1) (e := e) ha0 (by rw [qK_sF, qK_sF, qK_sF, qK_nO, if_pos rfl]) (by rw [qF_own (by decide), qF_sF, if_neg (fun y => by omega), qF_sF, if_pos ⟨rfl, rfl⟩]) (by rw [qF_own (by decide), qF_sF, if_pos ⟨rfl, rfl⟩]) own_own hc he
  obtain ⟨h1, eh1⟩ : ∃ h1, h1 = sF (sF (sF (nO hD a 5) 400 a (.int (nI (zT s y).1))) 401 a (.int (nI e))) 9999 a (.ref 30) := ⟨_, rfl⟩
  have hk1 : KP G.1 h1 kd (0, y, p) := by rw [eh1]; exact hkD.fr F1 (fun y => y)
  rw [show sF (sF (sF (nO hD a (4 + 1)) 400 a (.int (nI (zT s y).1))) 401 a (.int (nI e))) 9999 a (.ref 30) = h1 from eh1.symm]
  rw [← eh1] at F1 zL1
  obtain ⟨G1, eG1⟩ : ∃ G1 : GQ, G1 = (zu G.1 (zM s) a, G.2) := ⟨_, rfl⟩
  have eGa : a = G1.1 (zM s) := by rw [eG1]; exact zu_s.symm
  have eGg : G.2 = G1.2 := by rw [eG1]
  have zL2 : RC h1 q G1 (zsL (drpK s e) (zT s y).1 e) := by rw [eG1]; exact zL1
  have z1 := zL2
  rw [eGa, eGg]
  have fc1 : FC h h1 := fcD.seq (FC.fa F1)
  have w1 : WE (fun x => x ∈ zL (zsL (drpK s e) (zT s y).1 e)) (zE (zsL (drpK s e) (zT s y).1 e) e) := ((w.drop he).1 e he).1.mono (fun y hy => List.mem_cons_of_mem _ hy)
  have wo : wO (fun x => x ∈ zL (zsL (drpK s e) (zT s y).1 e)) (1, p, zM s, e) := ⟨show (1 : Nat) ≤ 2 by decide, hp, he, List.mem_cons_self⟩
  have hU1 := (w.1 e he).2.1
  refine V_astore (pc := 32) X [(4, .ref _), (0, .ref _), (1, .ref _), (2, .int _), (3, .ref _)] dX8_putBack_32 (by decide) rfl ?_
  refine V_aload_n (pc := 34) X 2 dX8_putBack_34 rfl ?_
  refine V_new (pc := 35) (u := 3) X clk6 (by decide) nw_X8_220 (by decide) (by omega) dX8_putBack_35 (fun ad hp0 => ?_)
  have Fp0 : Fr (fun _ => False) h1 (nO h1 ad 7) := Fr_nO hp0
  have zp := z1.fa Fp0
  refine V_dup (pc := 38) X dX8_putBack_38 rfl ?_
  refine V_aload_n (pc := 39) X 2 dX8_putBack_39 rfl ?_
  refine V_get (pc := 40) X fl_X8_164 dX8_putBack_40 (zp.es he).1 (zp.es he).2.1 ?_
  refine V_bipush (pc := 43) (v := 105) X dX8_putBack_43 (by decide) ?_
  refine V_aload_n (pc := 45) X 4 dX8_putBack_45 rfl ?_
  have hk2 := hk1.fr Fp0 (fun y => y)
  refine V_get (pc := 46) X fl_X8_292 dX8_putBack_46 hk2.1 hk2.2.2.2 ?_
  refine V_aload (pc := 49) X 0 dX8_putBack_49 rfl ?_
  refine V_callI (pc := 51) X _ (c_oper (by rw [qK_nO, if_pos rfl]) (by decide)) cw_X8_278 (Q.room (by decide) (by decide)) rfl (Nat.le_of_ble_eq_true rfl) rfl (by omega) dX8_putBack_51 ?_
  rintro v51 h51 ⟨rfl, e51⟩
  simp only [Option.toList_none, List.nil_append]
  have ob : OP G1.1 h51 ad (1, p, (zM s), e) ∧ ∀ S, Fr S h1 h51 := by rw [e51]; exact OP_born hp0 1 p (zM s) e
  refine V_own ad (te e) ?_
  have F2 : Fr (fun _ => False) h1 (sF h51 9999 ad (te e)) := (ob.2 _).own hp0
  have op2 : OP G1.1 (sF h51 9999 ad (te e)) ad (1, p, (zM s), e) := OP.own ob.1
  have po2 : own (sF h51 9999 ad (te e)) ad = te e := own_own
  obtain ⟨h2, eh2⟩ : ∃ h2, h2 = sF h51 9999 ad (te e) := ⟨_, rfl⟩
  rw [← eh2] at F2 op2 po2 ⊢
  have z2 := z1.fa F2
  obtain ⟨U0, u1, u2, u3, u4⟩ := z2.2.2.2.1.ms he
  refine V_callV (pc := 54) X clk2 (by decide) (z2.es he).1 _ (c_make (z2.e he) w1 (z2.km) op2 po2 ((z1.e he).notin F2 hp0) wo (show (1 : Nat) ≠ 0 by decide) he u1 u2 (by rw [u3]; exact Nat.le_trans hU1 (by decide)) u4) cw_X8_281 (Q.room (by decide) (by decide)) rfl (Nat.le_of_ble_eq_true rfl) rfl (by omega) dX8_putBack_54 (fun _ _ z => z.elim) ?_
  rintro v54 h3 ⟨rfl, m1, m2, m3, m4, m5⟩
  simp only [Option.toList_none, List.nil_append]
  obtain ⟨z3, fc3⟩ := z2.sent he m1 m5 u1 m2 (fun Hs a => m3.trans a) m4
  have fc3' : FC h h3 := fc1.seq ((FC.fa F2).seq fc3)
  refine V_aload_n (pc := 57) X 1 dX8_putBack_57 rfl ?_
  refine V_dup (pc := 58) X dX8_putBack_58 rfl ?_
  refine V_get (pc := 59) X fl_X8_42 dX8_putBack_59 z3.k (show _ = Value.int (nI (zM s)) from z3.1.2.2.2.2.2.2.1) ?_
  refine V_iconst (pc := 62) (v := 1) X dX8_putBack_62 (by decide) ?_
  refine V_iadd (pc := 63) X dX8_putBack_63 ?_
  rw [nI_1]
  refine V_put (pc := 64) X fl_X8_42 dX8_putBack_64 z3.k ⟨rfl, rfl⟩ ?_
  obtain ⟨z4, fc4⟩ := z3.made (zM s + 1)
  obtain ⟨h4, eh4⟩ : ∃ h4, h4 = sF h3 805 q (.int (nI (zM s + 1))) := ⟨_, rfl⟩
  rw [← eh4] at z4 fc4 ⊢
  have fc4' : FC h h4 := fc3'.seq fc4
  refine V_iconst (pc := 67) (v := 1) X dX8_putBack_67 (by decide) ?_
  refine V_iret (pc := 68) X Q rfl rfl dX8_putBack_68 ?_
  exact ⟨⟨rfl, hl60, hM, G1.1, by rw [eGg]; exact z4⟩, fc4'⟩
