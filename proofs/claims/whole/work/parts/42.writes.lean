/-! WRITING -/
theorem ER.notin {la : Nat → Nat} {h h' : AH} {e p : Nat} {g : Nat → Nat} {x : EQ} (z : ER la h e g x) (F : Fr (fun _ => False) h h') (hp : qK h p = 0) : ∀ i, 2 ≤ i → i ≤ 3 → p ∉ qL h' (g i) := fun i a b y => by
  rw [F.L (z.1.k i a (by omega)) (fun y => y)] at y
  obtain ⟨R2, R3, p2, p3, -⟩ := z.2.2.1
  rcases (show i = 2 ∨ i = 3 by omega) with rfl | rfl
  · rw [p2.1] at y; have := p2.2.1.kind y; omega
  · rw [p3.1] at y; have := p3.2.1.kind y; omega
theorem RC.fa {h h1 : AH} {q : Nat} {G : GQ} {s : SQ} (z : RC h q G s) (F : Fr (fun _ => False) h h1) : RC h1 q G s := z.fr (F.mono (fun _ _ y => y.elim))
theorem FC.fa {h h1 : AH} (F : Fr (fun _ => False) h h1) : FC h h1 := F.mono (fun _ _ y => y.elim)
theorem RC.km {h : AH} {q : Nat} {G : GQ} {s : SQ} (z : RC h q G s) : ∀ y, y ∈ zL s → qK h (G.1 y) = 5 := fun y hy => (z.2.2.2.2.2.2.1 y hy).1.1
/-- one more is kept -/
theorem RC.keeps {h : AH} {q k : Nat} {G : GQ} {s : SQ} (z : RC h q G s) {e : Nat} (he : e ≤ 1) {o : KO} {R : List Nat} (hR : qL h (G.2.1 e 6) = R) (hk : KP G.1 h k o) (ho : own h k = te e) (hn : k ∉ R) (hl : R.length ≤ 200) : RC (sL h (G.2.1 e 6) (R ++ [k]) (gcap R.length (qC h (G.2.1 e 6)))) q G (addK s e o) ∧ FC h (sL h (G.2.1 e 6) (R ++ [k]) (gcap R.length (qC h (G.2.1 e 6)))) := by
  obtain ⟨R', q1, q2, q3, q4, q5⟩ := (z.e he).2.2.2.1
  have eR' : R' = R := q1.symm.trans hR
  subst eR'
  have F : Fr (fun a => a = G.2.1 e 6) h (sL h (G.2.1 e 6) (R' ++ [k]) (gcap R'.length (qC h (G.2.1 e 6)))) := Fr_sL rfl
  have es := z.es he
  have nk : ∀ r, qK h r ≠ 11 → ¬ (r = G.2.1 e 6) := fun r k y => k (by rw [y]; exact es.l 6)
  have hkk : qK h k = 4 := hk.1
  obtain ⟨y1, y2, -⟩ := (z.e he).kept (K := eK (zE s e) ++ [o]) F (by rw [qL_sL, if_pos rfl]) (R := R' ++ [k]) ⟨by rw [List.length_append, List.length_append, q2.1]; rfl, fun j r b hr hb => by
    have hl2 := q2.1
    rcases Nat.lt_or_ge j R'.length with u | u
    · rw [List.getElem?_append_left u] at hr
      rw [List.getElem?_append_left (by show j < (zE s e).2.2.2.1.length; omega)] at hb
      exact (q2.2 j r b hr hb).fr F (nk r (by rw [q2.kind (List.mem_of_getElem? hr)]; decide))
    · rw [List.getElem?_append_right u] at hr
      rw [List.getElem?_append_right (by show (zE s e).2.2.2.1.length ≤ j; omega)] at hb
      have ej : j - R'.length = 0 := by
        have := (List.getElem?_eq_some_iff.mp hr).1
        simp at this
        omega
      rw [ej] at hr
      rw [show j - (eK (zE s e)).length = 0 by show j - (zE s e).2.2.2.1.length = 0; omega] at hb
      simp at hr hb
      subst hr
      subst hb
      exact hk.fr F (nk k (by rw [hkk]; decide))⟩ (by
    rw [List.nodup_append]
    exact ⟨q3, by simp, fun a ha b hb u => by simp at hb; rw [hb] at u; exact hn (by rw [← u]; exact ha)⟩) (fun r hr => by
    rcases List.mem_append.mp hr with u | u
    · exact F.O (by rw [q2.kind u]; decide) (q4 r u)
    · simp at u; rw [u]; exact F.O (by rw [hkk]; decide) ho) (by rw [qC_sL, if_pos rfl]; exact Nat.le_trans (gcap_max hl) (by omega))
  exact z.quiet he y1 (F.mono (fun a _ y => by rw [y]; exact es.o 6)) y2 rfl
/-- the latest that is kept goes -/
theorem RC.drops {h : AH} {q n : Nat} {G : GQ} {s : SQ} (z : RC h q G s) {e : Nat} (he : e ≤ 1) {R : List Nat} (hR : qL h (G.2.1 e 6) = R) (hl : R.length = n + 1) : RC (sL h (G.2.1 e 6) (lDel R n) (qC h (G.2.1 e 6))) q G (drpK s e) ∧ FC h (sL h (G.2.1 e 6) (lDel R n) (qC h (G.2.1 e 6))) := by
  obtain ⟨R', q1, q2, q3, q4, q5⟩ := (z.e he).2.2.2.1
  have eR' : R' = R := q1.symm.trans hR
  subst eR'
  have eD : lDel R' n = R'.take n := by
    unfold lDel
    rw [List.drop_eq_nil_of_le (by omega), List.append_nil]
  rw [eD]
  have F : Fr (fun a => a = G.2.1 e 6) h (sL h (G.2.1 e 6) (R'.take n) (qC h (G.2.1 e 6))) := Fr_sL rfl
  have es := z.es he
  have nk : ∀ r, qK h r ≠ 11 → ¬ (r = G.2.1 e 6) := fun r k y => k (by rw [y]; exact es.l 6)
  have eK' : (eK (zE s e)).dropLast = (eK (zE s e)).take n := by
    rw [List.dropLast_eq_take, show (eK (zE s e)).length = n + 1 from q2.1.symm.trans hl]
    rfl
  obtain ⟨y1, y2, -⟩ := (z.e he).kept (K := (eK (zE s e)).dropLast) F (by rw [qL_sL, if_pos rfl]) (R := R'.take n) (by
    rw [eK']
    refine ⟨by rw [List.length_take, List.length_take, show (eK (zE s e)).length = R'.length from q2.1.symm], fun j r b hr hb => ?_⟩
    have hj : j < n := by
      have := (List.getElem?_eq_some_iff.mp hr).1
      rw [List.length_take] at this
      omega
    rw [List.getElem?_take_of_lt hj] at hr hb
    exact (q2.2 j r b hr hb).fr F (nk r (by rw [q2.kind (List.mem_of_getElem? hr)]; decide))) (q3.sublist (List.take_sublist _ _)) (fun r hr => by
    have := List.mem_of_mem_take hr
    exact F.O (by rw [q2.kind this]; decide) (q4 r this)) (by rw [qC_sL, if_pos rfl]; exact q5)
  exact z.quiet he y1 (F.mono (fun a _ y => by rw [y]; exact es.o 6)) y2 rfl
theorem kp_of {la : Nat → Nat} {h h' : AH} {k p x : Nat} {b : Int32} {j : Nat} (h0 : qK h k = 0) (hb : b = nI j) (e : h' = sF (sF (sF (nO h k 4) 300 k (.int b)) 301 k (.ref (la x))) 302 k (.int (nI p))) (v : Value) : KP la (sF h' 9999 k v) k (j, x, p) ∧ Fr (fun _ => False) h (sF h' 9999 k v) := by
  subst e
  subst hb
  have F : Fr (fun a => a = k) h (sF (sF (sF (nO h k 4) 300 k (.int (nI j))) 301 k (.ref (la x))) 302 k (.int (nI p))) := (((Fr_nO (S := fun a => a = k) h0).seq (Fr_sF (f := 300) rfl)).seq (Fr_sF (f := 301) rfl)).seq (Fr_sF (f := 302) rfl)
  refine ⟨⟨by rw [qK_sF, qK_sF, qK_sF, qK_sF, qK_nO, if_pos rfl], ?_, ?_, ?_⟩, (F.mono (fun a ha y => ha (by rw [y]; exact h0))).own h0⟩
  · rw [qF_own (by decide), qF_sF, if_neg (fun y => by omega), qF_sF, if_neg (fun y => by omega), qF_sF, if_pos ⟨rfl, rfl⟩]
  · rw [qF_own (by decide), qF_sF, if_neg (fun y => by omega), qF_sF, if_pos ⟨rfl, rfl⟩]
  · rw [qF_own (by decide), qF_sF, if_pos ⟨rfl, rfl⟩]
theorem c_writeKept {E : EV} {h : AH} {q : Nat} {G : GQ} {s : SQ} (z : RC h q G s) (w : WS' s) {e p c : Nat} (he : e ≤ 1) (hp : p < 2 ^ 28) (hc : c < 127) : Ct E yX8_writeKept cX8_writeKept 5 none 11 1322 [.ref q, .ref (G.2.1 e 0), .int (nI p), .int (nI c)] h (fun v h1 => v = none ∧ (∃ la, RC h1 q (la, G.2) (sIns s e p c)) ∧ FC h h1) noX := by
  refine Ct_of RX8 (by decide +kernel) rfl (Nat.le_of_ble_eq_true rfl) (fun Γ X nt Q hin => ?_)
  have hKl : (eK (zE s e)).length ≤ 200 := (w.1 e he).1.2.2.2.1.1
  refine V_new (pc := 0) (u := 3) X clk4 (by decide) nw_X8_181 (by decide) (by omega) dX8_writeKept_0 (fun a ha0 => ?_)
  have Fa0 : Fr (fun _ => False) h (nO h a 5) := Fr_nO ha0
  have za := z.fa Fa0
  have z0 := z
  have w0 := w
  refine V_dup (pc := 3) X dX8_writeKept_3 rfl ?_
  refine V_iload_n (pc := 4) X 3 dX8_writeKept_4 rfl ?_
  refine V_aload_n (pc := 5) X 1 dX8_writeKept_5 rfl ?_
  refine V_get (pc := 6) X fl_X8_164 dX8_writeKept_6 (za.es he).1 (za.es he).2.1 ?_
  refine V_callI (pc := 9) X _ (c_letter (by rw [qK_nO, if_pos rfl]) (pk_charN (by omega))) cw_X8_275 (Q.room (by decide) (by decide)) rfl (Nat.le_of_ble_eq_true rfl) rfl (by omega) dX8_writeKept_9 ?_
  rintro v9 h9 ⟨rfl, rfl⟩
  simp only [Option.toList_none, List.nil_append]
  have F1 : Fr (fun _ => False) h (sF (sF (sF (nO h a 5) 400 a (.int (nI c))) 401 a (.int (nI e))) 9999 a (.ref 30)) := (((((Fr_nO (S := fun b => b = a) ha0).seq (Fr_sF (f := 400) rfl)).seq (Fr_sF (f := 401) rfl)).mono (fun b hb y => hb (by rw [y]; exact ha0))).own ha0)
  refine V_own a (.ref 30) ?_
  have zL1 := z0.letter w0 F1 (c := c) (e := e) ha0 (by rw [qK_sF, qK_sF, qK_sF, qK_nO, if_pos rfl]) (by rw [qF_own (by decide), qF_sF, if_neg (fun y => by omega), qF_sF, if_pos ⟨rfl, rfl⟩]) (by rw [qF_own (by decide), qF_sF, if_pos ⟨rfl, rfl⟩]) own_own hc he
  obtain ⟨h1, eh1⟩ : ∃ h1, h1 = sF (sF (sF (nO h a 5) 400 a (.int (nI c))) 401 a (.int (nI e))) 9999 a (.ref 30) := ⟨_, rfl⟩
  rw [← eh1] at F1 zL1 ⊢
  obtain ⟨G1, eG1⟩ : ∃ G1 : GQ, G1 = (zu G.1 (zM s) a, G.2) := ⟨_, rfl⟩
  have eGa : a = G1.1 (zM s) := by rw [eG1]; exact zu_s.symm
  have eGg : G.2 = G1.2 := by rw [eG1]
  rw [← eG1] at zL1
  have z1 := zL1
  rw [eGa, eGg]
  have fc1 : FC h h1 := FC.fa F1
  have w1 : WE (fun x => x ∈ zL (zsL s c e)) (zE (zsL s c e) e) := (w.1 e he).1.mono (fun y hy => List.mem_cons_of_mem _ hy)
  let oo : SO := (1, p, zM s, e)
  have wo : wO (fun x => x ∈ zL (zsL s c e)) (1, p, zM s, e) := ⟨show (1 : Nat) ≤ 2 by decide, hp, he, List.mem_cons_self⟩
  have hU1 := (w.1 e he).2.1
  refine V_astore (pc := 12) X [(4, .ref _), (0, .ref _), (1, .ref _), (2, .int _), (3, .int _)] dX8_writeKept_12 (by decide) rfl ?_
  refine V_aload_n (pc := 14) X 2 dX8_writeKept_14 rfl ?_
  refine V_new (pc := 15) (u := 3) X clk6 (by decide) nw_X8_220 (by decide) (by omega) dX8_writeKept_15 (fun ad hp0 => ?_)
  have Fp0 : Fr (fun _ => False) h1 (nO h1 ad 7) := Fr_nO hp0
  have zp := z1.fa Fp0
  refine V_dup (pc := 18) X dX8_writeKept_18 rfl ?_
  refine V_aload_n (pc := 19) X 2 dX8_writeKept_19 rfl ?_
  refine V_get (pc := 20) X fl_X8_164 dX8_writeKept_20 (zp.es he).1 (zp.es he).2.1 ?_
  refine V_bipush (pc := 23) (v := 105) X dX8_writeKept_23 (by decide) ?_
  refine V_iload_n (pc := 25) X 3 dX8_writeKept_25 rfl ?_
  refine V_aload (pc := 26) X 0 dX8_writeKept_26 rfl ?_
  refine V_callI (pc := 28) X _ (c_oper (by rw [qK_nO, if_pos rfl]) (by decide)) cw_X8_278 (Q.room (by decide) (by decide)) rfl (Nat.le_of_ble_eq_true rfl) rfl (by omega) dX8_writeKept_28 ?_
  rintro v28 h28 ⟨rfl, e28⟩
  simp only [Option.toList_none, List.nil_append]
  have ob : OP G1.1 h28 ad (1, p, (zM s), e) ∧ ∀ S, Fr S h1 h28 := by rw [e28]; exact OP_born hp0 1 p (zM s) e
  refine V_own ad (te e) ?_
  have F2 : Fr (fun _ => False) h1 (sF h28 9999 ad (te e)) := (ob.2 _).own hp0
  have op2 : OP G1.1 (sF h28 9999 ad (te e)) ad (1, p, (zM s), e) := OP.own ob.1
  have po2 : own (sF h28 9999 ad (te e)) ad = te e := own_own
  obtain ⟨h2, eh2⟩ : ∃ h2, h2 = sF h28 9999 ad (te e) := ⟨_, rfl⟩
  rw [← eh2] at F2 op2 po2 ⊢
  have z2 := z1.fa F2
  obtain ⟨U0, u1, u2, u3, u4⟩ := z2.2.2.2.1.ms he
  refine V_callV (pc := 31) X clk2 (by decide) (z2.es he).1 _ (c_make (z2.e he) w1 (z2.km) op2 po2 ((z1.e he).notin F2 hp0) wo (show (1 : Nat) ≠ 0 by decide) he u1 u2 (by rw [u3]; exact Nat.le_trans hU1 (by decide)) u4) cw_X8_281 (Q.room (by decide) (by decide)) rfl (Nat.le_of_ble_eq_true rfl) rfl (by omega) dX8_writeKept_31 (fun _ _ z => z.elim) ?_
  rintro v31 h3 ⟨rfl, m1, m2, m3, m4, m5⟩
  simp only [Option.toList_none, List.nil_append]
  obtain ⟨z3, fc3⟩ := z2.sent he m1 m5 u1 m2 (fun Hs a => m3.trans a) m4
  have fc3' : FC h h3 := fc1.seq ((FC.fa F2).seq fc3)
  refine V_aload_n (pc := 34) X 1 dX8_writeKept_34 rfl ?_
  refine V_dup (pc := 35) X dX8_writeKept_35 rfl ?_
  refine V_get (pc := 36) X fl_X8_42 dX8_writeKept_36 z3.k (show _ = Value.int (nI (zM s)) from z3.1.2.2.2.2.2.2.1) ?_
  refine V_iconst (pc := 39) (v := 1) X dX8_writeKept_39 (by decide) ?_
  refine V_iadd (pc := 40) X dX8_writeKept_40 ?_
  rw [nI_1]
  refine V_put (pc := 41) X fl_X8_42 dX8_writeKept_41 z3.k ⟨rfl, rfl⟩ ?_
  obtain ⟨z4, fc4⟩ := z3.made (zM s + 1)
  obtain ⟨h4, eh4⟩ : ∃ h4, h4 = sF h3 805 q (.int (nI (zM s + 1))) := ⟨_, rfl⟩
  rw [← eh4] at z4 fc4 ⊢
  have fc4' : FC h h4 := fc3'.seq fc4
  refine V_aload_n (pc := 44) X 2 dX8_writeKept_44 rfl ?_
  refine V_get (pc := 45) X fl_X8_98 dX8_writeKept_45 (z4.es he).1 ((z4.es he).f 6) ?_
  refine V_new (pc := 48) (u := 3) X clk3 (by decide) nw_X8_111 (by decide) (by omega) dX8_writeKept_48 (fun k hk0 => ?_)
  refine V_dup (pc := 51) X dX8_writeKept_51 rfl ?_
  refine V_iconst (pc := 52) (v := 1) X dX8_writeKept_52 (by decide) ?_
  refine V_aload (pc := 53) X 0 dX8_writeKept_53 rfl ?_
  refine V_iload_n (pc := 55) X 3 dX8_writeKept_55 rfl ?_
  refine V_callI (pc := 56) X _ (c_kept (by rw [qK_nO, if_pos rfl]) (by decide)) cw_X8_285 (Q.room (by decide) (by decide)) rfl (Nat.le_of_ble_eq_true rfl) rfl (by omega) dX8_writeKept_56 ?_
  rintro v56 h56 ⟨rfl, e56⟩
  simp only [Option.toList_none, List.nil_append]
  obtain ⟨kk, Fk⟩ := kp_of (la := G1.1) (x := (zM s)) (p := p) hk0 (show _ = nI 1 from rfl) e56 (te e)
  refine V_own k (te e) ?_
  have ko : own (sF h56 9999 k (te e)) k = te e := own_own
  obtain ⟨h5, eh5⟩ : ∃ h5, h5 = sF h56 9999 k (te e) := ⟨_, rfl⟩
  rw [← eh5] at kk Fk ko ⊢
  have z5 := z4.fa Fk
  obtain ⟨R, q1, q2, q3, q4, q5⟩ := (z5.e he).2.2.2.1
  have hRl : R.length ≤ 200 := by
    rw [q2.1]
    refine Nat.le_trans (Nat.le_of_eq (congrArg (fun x : EQ => x.2.2.2.1.length) (zu_s (v := mak (zE s e) oo)))) ?_
    show ((zE s e).2.2.2.1.map _).length ≤ 200
    rw [List.length_map]; exact hKl
  have hkR : k ∉ R := fun y => by
    obtain ⟨R', r1, r2, -⟩ := (z4.e he).2.2.2.1
    have : R = R' := q1.symm.trans ((Fk.L ((z4.es he).k 6) (fun y => y)).trans r1)
    rw [this] at y
    have := r2.kind y
    omega
  obtain ⟨z6, fc6⟩ := z5.keeps he q1 kk ko hkR hRl
  have k6 := (z5.es he).l 6
  refine V_callL (pc := 59) X (Or.inl k6) _ (c_add (x := k) k6 (by rw [kk.1]; omega) (by omega) (fun y hy => by rw [q1] at hy; rw [q2.kind hy]; omega)) cw_X8_150 (Q.room (by decide) (by decide)) rfl (Nat.le_of_ble_eq_true rfl) rfl (by have := gcap_inc (n := (qL h5 (G1.2.1 e 6)).length) (c := qC h5 (G1.2.1 e 6)) (by rw [q1]; exact hRl); omega) dX8_writeKept_59 (fun _ _ z => z.elim) ?_
  rintro v59 h59 ⟨rfl, e59⟩
  rw [e59, q1]
  simp only [Option.toList_some, List.cons_append, List.nil_append]
  refine V_pop (pc := 62) X dX8_writeKept_62 rfl ?_
  refine V_vret (pc := 63) X Q rfl dX8_writeKept_63 ?_
  exact ⟨rfl, ⟨G1.1, by rw [eGg]; exact z6⟩, fc4'.seq ((FC.fa Fk).seq fc6)⟩
