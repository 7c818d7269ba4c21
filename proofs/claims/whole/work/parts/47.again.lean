/-! BUILDING AGAIN -/
theorem hop_take {H : List MG} {i : Nat} {x : MG} (h : H[i]? = some x) : hop (H.take (i + 1)) = hop (H.take i) ++ x.2.2 := by
  rw [List.take_add_one, h, hop_app]
  show hop (H.take i) ++ (x.2.2 ++ []) = _
  rw [List.append_nil]
theorem hop_takele (H : List MG) (i : Nat) : (hop (H.take i)).length ≤ (hop H).length := by
  have : hop H = hop (H.take i) ++ hop (H.drop i) := by rw [← hop_app, List.take_append_drop]
  rw [this, List.length_append]
  omega
theorem RC.again {h h1 : AH} {q : Nat} {G : GQ} {s : SQ} (z : RC h q G s) (F : Fr (fun a => a = G.2.2.2 1) h h1) (r : RC3 G.1 h1 G.2.2.2 (zL s)) : RC h1 q G s ∧ FC h h1 := by
  obtain ⟨z0, z1, zc, z2, z3, z4, z5⟩ := z
  obtain ⟨ys, c, -, -, -, o0, o3⟩ := z3
  have N : ∀ e, e ≠ 3 → ∀ a, own h a = te e → ¬ a = G.2.2.2 1 := fun e he a y u => ref_ne (a := 20 + e) (b := 23) (by omega) (y.symm.trans (by rw [u]; exact o3))
  have N' : ∀ t : Nat, t ≠ 23 → ∀ a, own h a = .ref t → ¬ a = G.2.2.2 1 := fun t ht a y u => ref_ne (a := t) (b := 23) (by omega) (y.symm.trans (by rw [u]; exact o3))
  exact ⟨⟨z0.fr F (N 5 (by decide)), z1.fr F (fun e he => N e (by omega)), zc.fr F (fun i hi => N 2 (by decide) _ (zc.2.2.2.2.2.2.2 i hi)), z2.fr zc z1 F (N 2 (by decide)) (fun e he => N e (by omega)) (N' 35 (by decide)) (fun (m : Nat) => N' (40 + m) (Nat.ne_of_gt (Nat.lt_of_lt_of_le (show 23 < 40 by decide) (Nat.le_add_right 40 m)))), r, z4.fr F (N 4 (by decide)), z5.fr F (N' 30 (by decide))⟩, FC.of F (fun a _ y => by rw [y]; exact te_oth (by decide) o3)⟩
theorem c_rebuild {E : EV} {h : AH} {q : Nat} {G : GQ} {s : SQ} (z : RC h q G s) (w : WS' s) {e : Nat} (he : e ≤ 1) (hH : (hop (zH s)).length ≤ 200) (ht : (hop ((zH s).take (eR (zE s e)))).length + (eS (zE s e)).length + (eW (zE s e)).length ≤ 200) (hx : apS (hop ((zH s).take (eR (zE s e))) ++ eS (zE s e) ++ eW (zE s e)) [] = eX (zE s e)) : Ct E yX8_rebuild cX8_rebuild 3 none 10 301 [.ref q, .ref (G.2.1 e 0)] h (fun v h1 => v = none ∧ RC h1 q G s ∧ FC h h1 ∧ ∃ c, TX G.1 h1 (G.2.2.2 0) (G.2.2.2 1) (eX (zE s e)) c) noX := by
  refine Ct_of RX8 (by decide +kernel) rfl (Nat.le_of_ble_eq_true rfl) (fun Γ X nt Q hin => ?_)
  obtain ⟨ys, c, tx, hc, hyL, o0, o3⟩ := z.2.2.2.2.1
  obtain ⟨Hs, Us, y1, y2, y3, y4, y5, y6⟩ := z.2.2.2.1
  obtain ⟨R2, R3, o2, o3', nd⟩ := (z.e he).2.2.1
  have es := z.es he
  have cE := z.2.2.1
  have hHl := y2.1
  have hH200 := w.2.2.1.1
  have hrv := (w.1 e he).2.2.2
  have N' : ∀ t : Nat, t ≠ 23 → ∀ a, own h a = .ref t → ¬ a = G.2.2.2 1 := fun t ht a y u => ref_ne (a := t) (b := 23) (by omega) (y.symm.trans (by rw [u]; exact o3))
  have Nl : ∀ m : Nat, ∀ a, own h a = .ref (40 + m) → ¬ a = G.2.2.2 1 := fun m => N' (40 + m) (Nat.ne_of_gt (Nat.lt_of_lt_of_le (show 23 < 40 by decide) (Nat.le_add_right 40 m)))
  have NQ : ∀ a, qK h a ≠ 11 → ¬ a = G.2.2.2 1 := fun a k u => k (by rw [u]; exact tx.2.2.1)
  have No : ∀ r, qK h r = 7 → ¬ r = G.2.2.2 1 := fun r k => NQ r (by rw [k]; decide)
  have hcaps : ∀ (O : List SO) (xs : List Nat) (d : Nat), d ≤ 301 → xs.length + O.length ≤ 201 → caS O xs d ≤ 301 := fun O xs d hd hl => Nat.le_trans (caS_max O xs d hl) (by omega)
  have hlen : ∀ O : List SO, (apS O []).length ≤ O.length := fun O => by have := apS_len O []; simpa using this
  have hwH : ∀ m ∈ zH s, ∀ o ∈ m.2.2, wO (fun x => x ∈ zL s) o := fun m hm => (w.2.2.1.2 m hm).2.2.2
  have hwS : ∀ o ∈ eS (zE s e), wO (fun x => x ∈ zL s) o := (w.1 e he).1.2.1.2
  have hwW : ∀ o ∈ eW (zE s e), wO (fun x => x ∈ zL s) o := (w.1 e he).1.2.2.1.2
  have hhL : ∀ i, ∀ y ∈ apS (hop ((zH s).take i)) [], y ∈ zL s := fun i y hy => by
    rcases apS_mem hy with u | ⟨o, ho, eo⟩
    · exact absurd u List.not_mem_nil
    · obtain ⟨m, hm, hom⟩ := hop_mem ho
      rw [eo]; exact (hwH m (List.mem_of_mem_take hm) o hom).2.2.2
  have F0 : Fr (fun a => a = G.2.2.2 1) h (sL h (G.2.2.2 1) [] (qC h (G.2.2.2 1))) := Fr_sL rfl
  have nq : ¬ q = G.2.2.2 1 := NQ q (by rw [z.k]; decide)
  have ne0 : ¬ G.2.1 e 0 = G.2.2.2 1 := NQ _ (by rw [es.1]; decide)
  have nl : ∀ i, 2 ≤ i → i ≤ 7 → ¬ G.2.1 e i = G.2.2.2 1 := fun i a b => N' (20 + e) (by omega) _ (es.o i b)
  have nc : ∀ i, i ≤ 3 → ¬ G.2.2.1 i = G.2.2.2 1 := fun i a => N' 22 (by decide) _ (cE.2.2.2.2.2.2.2 i a)
  have nt0 : ¬ G.2.2.2 0 = G.2.2.2 1 := NQ _ (by rw [tx.1]; decide)
  refine V_aload_n (pc := 0) X 0 dX8_rebuild_0 rfl ?_
  refine V_get (pc := 1) X fl_X8_31 dX8_rebuild_1 z.k z.1.2.2.2.2.1 ?_
  refine V_get (pc := 4) X fl_X8_268 dX8_rebuild_4 tx.1 tx.2.1 ?_
  refine V_callL (pc := 7) X (Or.inl tx.2.2.1) _ (c_clear tx.2.2.1) cw_X8_295 (Q.room (by decide) (by decide)) rfl (Nat.le_of_ble_eq_true rfl) rfl (by omega) dX8_rebuild_7 (fun _ _ z => z.elim) ?_
  rintro v7 h7 ⟨rfl, rfl⟩
  simp only [Option.toList_none, List.nil_append]
  refine V_iconst (pc := 10) (v := 0) X dX8_rebuild_10 (by decide) ?_
  refine V_istore_n (pc := 11) X [(2, .int _), (0, .ref _), (1, .ref _)] dX8_rebuild_11 rfl (by decide) rfl ?_
  have key : ∀ (n i : Nat), eR (zE s e) - i < n → i ≤ eR (zE s e) → ∀ (hr : AH) (d : Nat), TX G.1 hr (G.2.2.2 0) (G.2.2.2 1) (apS (hop ((zH s).take i)) []) d → d ≤ 301 → Fr (fun a => a = G.2.2.2 1) h hr → V E Γ (301 - d) hr 12 [(2, .int (nI i)), (0, .ref q), (1, .ref (G.2.1 e 0))] [] := by
    intro n
    induction n with
    | zero => exact fun i hn => absurd hn (Nat.not_lt_zero _)
    | succ n ih =>
      intro i hn hi hr d r1 r2 r3
      have hE1 := es.fr r3 ne0
      have kq := r3.K z.k (by decide)
      have fq : ∀ f v, qF h f q = v → qF hr f q = v := fun f v y => r3.F (by rw [z.k]; decide) nq y
      have c1 := cE.fr r3 (fun i hi => nc i hi)
      have L1 := (r3.L (by rw [cE.2.2.2.2.1]; decide) (nc 2 (by decide))).trans y1
      refine V_iload_n (pc := 12) X 0 dX8_rebuild_12 rfl ?_
      refine V_aload_n (pc := 13) X 2 dX8_rebuild_13 rfl ?_
      refine V_get (pc := 14) X fl_X8_196 dX8_rebuild_14 hE1.1 (show qF hr 209 (G.2.1 e 0) = .int (nI (eR (zE s e))) from r3.F (by rw [es.1]; decide) ne0 (z.e he).2.2.2.2.2.2) ?_
      refine V_icmp_ge (pc := 17) X 64 dX8_rebuild_17 (by decide) (fun c17 => ?_) (fun c17 => ?_)
      · have hie : ¬ i < eR (zE s e) := fun z => nI_ge z (by omega) c17
        refine V_aload_n (pc := 64) X 1 dX8_rebuild_64 rfl ?_
        have hii : i = eR (zE s e) := by omega
        subst hii
        have hl1 := hlen (hop ((zH s).take (eR (zE s e))))
        have S1 := o2.2.1.fr r3 (fun r hr => No r (o2.2.1.kind hr))
        have hcS := hcaps (eS (zE s e)) _ d r2 (by omega : (apS (hop ((zH s).take (eR (zE s e)))) []).length + (eS (zE s e)).length ≤ 201)
        have hcl := caS_le (eS (zE s e)) (apS (hop ((zH s).take (eR (zE s e)))) []) d
        refine V_get (pc := 65) X fl_X8_31 dX8_rebuild_65 kq (fq _ _ z.1.2.2.2.2.1) ?_
        refine V_aload_n (pc := 68) X 2 dX8_rebuild_68 rfl ?_
        refine V_get (pc := 69) X fl_X8_199 dX8_rebuild_69 hE1.1 (hE1.f 2) ?_
        refine V_callV (pc := 72) X clk7 (by decide) r1.1 _ (c_tcarryAll (O := eS (zE s e)) r1 (hE1.l 2) ((r3.L (es.k 2) (nl 2 (by decide) (by decide))).trans o2.1) (nl 2 (by decide) (by decide)) S1 (fun o ho => by
            have := hwS o ho
            unfold wO at this
            exact ⟨this.1, by omega, fun _ => r3.K (z.km _ this.2.2.2) (by decide)⟩) (fun y hy => r3.K (z.km y (hhL _ y hy)) (by decide)) (by omega) (by omega)) cw_X8_298 (Q.room (by decide) (by decide)) rfl (Nat.le_of_ble_eq_true rfl) rfl (by omega) dX8_rebuild_72 (fun _ _ z => z.elim) ?_
        rintro v72 h72 ⟨rfl, t1, t2⟩
        simp only [Option.toList_none, List.nil_append]
        have r4 := r3.seq t2
        have hE2 := es.fr r4 ne0
        have kq2 := r4.K z.k (by decide)
        have S3 := o3'.2.1.fr r4 (fun r hr => No r (o3'.2.1.kind hr))
        have hl2 := apS_len (eS (zE s e)) (apS (hop ((zH s).take (eR (zE s e)))) [])
        have hcW := hcaps (eW (zE s e)) _ _ hcS (by omega : (apS (eS (zE s e)) (apS (hop ((zH s).take (eR (zE s e)))) [])).length + (eW (zE s e)).length ≤ 201)
        have hcl2 := caS_le (eW (zE s e)) (apS (eS (zE s e)) (apS (hop ((zH s).take (eR (zE s e)))) [])) (caS (eS (zE s e)) (apS (hop ((zH s).take (eR (zE s e)))) []) d)
        have hSL : ∀ y ∈ apS (eS (zE s e)) (apS (hop ((zH s).take (eR (zE s e)))) []), y ∈ zL s := fun y hy => by
          rcases apS_mem hy with u | ⟨o, ho, eo⟩
          · exact hhL _ y u
          · rw [eo]; exact (hwS o ho).2.2.2
        refine V_aload_n (pc := 75) X 1 dX8_rebuild_75 rfl ?_
        refine V_get (pc := 76) X fl_X8_31 dX8_rebuild_76 kq2 (r4.F (by rw [z.k]; decide) nq z.1.2.2.2.2.1) ?_
        refine V_aload_n (pc := 79) X 2 dX8_rebuild_79 rfl ?_
        refine V_get (pc := 80) X fl_X8_202 dX8_rebuild_80 hE2.1 (hE2.f 3) ?_
        refine V_callV (pc := 83) X clk7 (by decide) t1.1 _ (c_tcarryAll (O := eW (zE s e)) t1 (hE2.l 3) ((r4.L (es.k 3) (nl 3 (by decide) (by decide))).trans o3'.1) (nl 3 (by decide) (by decide)) S3 (fun o ho => by
            have := hwW o ho
            unfold wO at this
            exact ⟨this.1, by omega, fun _ => r4.K (z.km _ this.2.2.2) (by decide)⟩) (fun y hy => r4.K (z.km y (hSL y hy)) (by decide)) (by omega) (by omega)) cw_X8_298 (Q.room (by decide) (by decide)) rfl (Nat.le_of_ble_eq_true rfl) rfl (by omega) dX8_rebuild_83 (fun _ _ z => z.elim) ?_
        rintro v83 h83 ⟨rfl, p1, p2⟩
        simp only [Option.toList_none, List.nil_append]
        refine V_vret (pc := 86) X Q rfl dX8_rebuild_86 ?_
        have r5 := r4.seq p2
        rw [← apS_app, ← apS_app, ← List.append_assoc, hx] at p1
        have := z.again r5 ⟨_, _, p1, hcW, (w.1 e he).1.1.2, r5.O (by rw [tx.1]; decide) o0, r5.O (by rw [tx.2.2.1]; decide) o3⟩
        exact ⟨rfl, this.1, this.2, _, p1⟩
      · have hlt : i < eR (zE s e) := by
          rcases Nat.lt_or_ge i (eR (zE s e)) with z | z
          · exact z
          · exact absurd (nI_le z (by omega)) c17
        obtain ⟨ml, m, hm1, hm2, hms⟩ := y2.at (i := i) (by omega)
        have m1 := hms.fr r3 (N' 35 (by decide) _ hms.o) (fun a => Nl ml a)
        obtain ⟨ol, R, mh, mL, mC, mO, -⟩ := m1
        have hhi := hop_take hm2
        have hle := hop_takele (zH s) (i + 1)
        rw [hhi, List.length_append] at hle
        have hl1 := hlen (hop ((zH s).take i))
        have hca := hcaps m.2.2 _ d r2 (by omega : (apS (hop ((zH s).take i)) []).length + m.2.2.length ≤ 201)
        have hcl := caS_le m.2.2 (apS (hop ((zH s).take i)) []) d
        have hmo : own h ol = .ref (40 + ml) := by
          obtain ⟨ol', R', mh', -⟩ := hms
          have := mh'.2.2.2.1
          have e2 := mh.2.2.2.1
          rw [r3.F (by rw [mh'.1]; decide) (N' 35 (by decide) _ mh'.2.2.2.2.1) this] at e2
          rw [← Value.ref.inj e2]
          exact mh'.2.2.2.2.2.2
        refine V_iload_n (pc := 20) X 0 dX8_rebuild_20 rfl ?_
        refine V_aload_n (pc := 21) X 1 dX8_rebuild_21 rfl ?_
        refine V_get (pc := 22) X fl_X8_24 dX8_rebuild_22 kq (fq _ _ z.1.2.2.2.1) ?_
        refine V_get (pc := 25) X fl_X8_208 dX8_rebuild_25 c1.1 c1.2.2.1 ?_
        refine V_callL (pc := 28) X (Or.inl c1.2.2.2.2.1) _ (c_size c1.2.2.2.2.1) cw_X8_102 (Q.room (by decide) (by decide)) rfl (Nat.le_of_ble_eq_true rfl) rfl (by omega) dX8_rebuild_28 (fun _ _ z => z.elim) ?_
        rintro v28 h28 ⟨rfl, e28⟩
        rw [e28, L1]
        simp only [Option.toList_some, List.cons_append, List.nil_append]
        refine V_icmp_ge (pc := 31) X 64 dX8_rebuild_31 (by decide) (fun c31 => ?_) (fun c31 => ?_)
        · exact absurd c31 (nI_ge (by omega) (by omega))
        · refine V_aload_n (pc := 34) X 1 dX8_rebuild_34 rfl ?_
          refine V_get (pc := 35) X fl_X8_31 dX8_rebuild_35 kq (fq _ _ z.1.2.2.2.2.1) ?_
          refine V_aload_n (pc := 38) X 1 dX8_rebuild_38 rfl ?_
          refine V_get (pc := 39) X fl_X8_24 dX8_rebuild_39 kq (fq _ _ z.1.2.2.2.1) ?_
          refine V_get (pc := 42) X fl_X8_208 dX8_rebuild_42 c1.1 c1.2.2.1 ?_
          refine V_iload_n (pc := 45) X 0 dX8_rebuild_45 rfl ?_
          refine V_callL (pc := 46) X (Or.inl c1.2.2.2.2.1) _ (c_get (i := i) (x := ml) c1.2.2.2.2.1 (by rw [L1]; exact hm1) (by rw [L1]; omega)) cw_X8_107 (Q.room (by decide) (by decide)) rfl (Nat.le_of_ble_eq_true rfl) rfl (by omega) dX8_rebuild_46 (fun _ _ z => z.elim) ?_
          rintro v46 h46 ⟨rfl, e46⟩
          rw [e46]
          simp only [Option.toList_some, List.cons_append, List.nil_append]
          refine V_cast (pc := 49) X clk5 (by decide) ck_X8_141 mh.1 dX8_rebuild_49 ?_
          refine V_get (pc := 52) X fl_X8_154 dX8_rebuild_52 mh.1 mh.2.2.2.1 ?_
          refine V_callV (pc := 55) X clk7 (by decide) r1.1 _ (c_tcarryAll r1 mh.2.2.2.2.2.1 mL (Nl ml ol hmo) mO (fun o ho => by
              have := hwH m (List.mem_of_getElem? hm2) o ho
              unfold wO at this
              exact ⟨this.1, by omega, fun _ => r3.K (z.km _ this.2.2.2) (by decide)⟩) (fun y hy => r3.K (z.km y (hhL i y hy)) (by decide)) (by omega) (by omega)) cw_X8_298 (Q.room (by decide) (by decide)) rfl (Nat.le_of_ble_eq_true rfl) rfl (by omega) dX8_rebuild_55 (fun _ _ z => z.elim) ?_
          rintro v55 h55 ⟨rfl, t1, t2⟩
          simp only [Option.toList_none, List.nil_append]
          refine V_inc1 (pc := 58) X 0 [(2, .int _), (0, .ref _), (1, .ref _)] dX8_rebuild_58 rfl (by decide) rfl ?_
          rw [nI_1]
          refine V_goto (pc := 61) X 12 dX8_rebuild_61 (by decide) ?_
          refine V.less (b' := 301 - caS m.2.2 (apS (hop ((zH s).take i)) []) d) (by omega) ?_
          exact ih (i + 1) (by omega) (by omega) _ _ (by rw [hhi, apS_app]; exact t1) hca (r3.seq t2)
  refine V.less (b' := 301 - c) (by omega) ?_
  exact key (eR (zE s e) + 1) 0 (by omega) (Nat.zero_le _) _ c ⟨tx.1, tx.2.1, tx.2.2.1, by rw [qL_sL, if_pos rfl]; rfl, by rw [qC_sL, if_pos rfl]; exact tx.2.2.2.2⟩ hc F0
theorem x_lengthByHistory {E : EV} {h : AH} {q : Nat} {G : GQ} {s : SQ} (z : RC h q G s) (w : WS' s) (hH : (hop (zH s)).length ≤ 200) (ht : ∀ e, e ≤ 1 → (hop ((zH s).take (eR (zE s e)))).length + (eS (zE s e)).length + (eW (zE s e)).length ≤ 200) (hx : ∀ e, e ≤ 1 → apS (hop ((zH s).take (eR (zE s e))) ++ eS (zE s e) ++ eW (zE s e)) [] = eX (zE s e)) {x : Int32} : Ct E yX8_lengthByHistory cX8_lengthByHistory 2 (some .int) 11 304 [.ref q, .int x] h (fun v h1 => (∃ e : Nat, e ≤ 1 ∧ x = nI e ∧ v = some (.int (nI (eX (zE s e)).length))) ∧ RC h1 q G s ∧ FC h h1) (fun N h1 => N = "java/lang/IndexOutOfBoundsException" ∧ ¬ (x = 0 ∨ x = 1) ∧ h1 = h) := by
  refine Ct_of RX8 (by decide +kernel) rfl (Nat.le_of_ble_eq_true rfl) (fun Γ X nt Q hin => ?_)
  refine V_aload_n (pc := 0) X 0 dX8_lengthByHistory_0 rfl ?_
  refine V_aload_n (pc := 1) X 0 dX8_lengthByHistory_1 rfl ?_
  refine V_iload_n (pc := 2) X 1 dX8_lengthByHistory_2 rfl ?_
  refine V_callV (pc := 3) X clk8 (by decide) z.k _ (c_endN z) cw_X8_46 (Q.room (by decide) (by decide)) rfl (Nat.le_of_ble_eq_true rfl) rfl (by omega) dX8_lengthByHistory_3 (fun N h9 y => VX_out X Q nt y) ?_
  rintro v2 h2 ⟨⟨e, he, rfl, rfl⟩, e2⟩
  rw [e2]
  simp only [Option.toList_some, List.cons_append, List.nil_append]
  refine V_callV (pc := 6) X clk8 (by decide) z.k _ (c_rebuild z w he hH (ht e he) (hx e he)) cw_X8_189 (Q.room (by decide) (by decide)) rfl (Nat.le_of_ble_eq_true rfl) rfl (by omega) dX8_lengthByHistory_6 (fun _ _ z => z.elim) ?_
  rintro v6 h6 ⟨rfl, z6, fc, c6, tx⟩
  simp only [Option.toList_none, List.nil_append]
  refine V_aload_n (pc := 9) X 0 dX8_lengthByHistory_9 rfl ?_
  refine V_get (pc := 10) X fl_X8_31 dX8_lengthByHistory_10 z6.k z6.1.2.2.2.2.1 ?_
  refine V_callV (pc := 13) X clk7 (by decide) tx.1 _ (c_tsize tx) cw_X8_76 (Q.room (by decide) (by decide)) rfl (Nat.le_of_ble_eq_true rfl) rfl (by omega) dX8_lengthByHistory_13 (fun _ _ z => z.elim) ?_
  rintro v13 h13 ⟨rfl, e13⟩
  rw [e13]
  simp only [Option.toList_some, List.cons_append, List.nil_append]
  refine V_iret (pc := 16) X Q rfl rfl dX8_lengthByHistory_16 ?_
  exact ⟨⟨e, he, rfl, rfl⟩, z6, fc⟩
theorem x_charByHistory {E : EV} {h : AH} {q : Nat} {G : GQ} {s : SQ} (z : RC h q G s) (w : WS' s) (hH : (hop (zH s)).length ≤ 200) (ht : ∀ e, e ≤ 1 → (hop ((zH s).take (eR (zE s e)))).length + (eS (zE s e)).length + (eW (zE s e)).length ≤ 200) (hx : ∀ e, e ≤ 1 → apS (hop ((zH s).take (eR (zE s e))) ++ eS (zE s e) ++ eW (zE s e)) [] = eX (zE s e)) {x p : Int32} : Ct E yX8_charByHistory cX8_charByHistory 3 (some .char) 11 307 [.ref q, .int x, .int p] h (fun v h1 => (∃ (e i y : Nat), e ≤ 1 ∧ x = nI e ∧ p = nI i ∧ (eX (zE s e))[i]? = some y ∧ v = some (.int (nI (zT s y).1))) ∧ RC h1 q G s ∧ FC h h1) (fun N h1 => ((N = "java/lang/IndexOutOfBoundsException" ∧ ¬ (x = 0 ∨ x = 1)) ∨ (N = "java/lang/IllegalArgumentException" ∧ ∃ e : Nat, e ≤ 1 ∧ x = nI e ∧ ¬ (¬ p < 0 ∧ p < nI (eX (zE s e)).length))) ∧ RC h1 q G s ∧ FC h h1) := by
  refine Ct_of RX8 (by decide +kernel) rfl (Nat.le_of_ble_eq_true rfl) (fun Γ X nt Q hin => ?_)
  refine V_aload_n (pc := 0) X 0 dX8_charByHistory_0 rfl ?_
  refine V_aload_n (pc := 1) X 0 dX8_charByHistory_1 rfl ?_
  refine V_iload_n (pc := 2) X 1 dX8_charByHistory_2 rfl ?_
  refine V_callV (pc := 3) X clk8 (by decide) z.k _ (c_endN z) cw_X8_46 (Q.room (by decide) (by decide)) rfl (Nat.le_of_ble_eq_true rfl) rfl (by omega) dX8_charByHistory_3 (fun N h9 y => VX_out X Q nt ⟨Or.inl ⟨y.1, y.2.1⟩, by rw [y.2.2]; exact z, by rw [y.2.2]; exact FC.refl h⟩) ?_
  rintro v2 h2 ⟨⟨e, he, rfl, rfl⟩, e2⟩
  rw [e2]
  simp only [Option.toList_some, List.cons_append, List.nil_append]
  refine V_callV (pc := 6) X clk8 (by decide) z.k _ (c_rebuild z w he hH (ht e he) (hx e he)) cw_X8_189 (Q.room (by decide) (by decide)) rfl (Nat.le_of_ble_eq_true rfl) rfl (by omega) dX8_charByHistory_6 (fun _ _ z => z.elim) ?_
  rintro v6 h6 ⟨rfl, z6, fc, c6, tx⟩
  simp only [Option.toList_none, List.nil_append]
  refine V_aload_n (pc := 9) X 0 dX8_charByHistory_9 rfl ?_
  refine V_get (pc := 10) X fl_X8_31 dX8_charByHistory_10 z6.k z6.1.2.2.2.2.1 ?_
  refine V_iload_n (pc := 13) X 2 dX8_charByHistory_13 rfl ?_
  refine V_callS (pc := 14) X _ (c_letterOf tx (z6.lt w he) (w.1 e he).1.1.1) cw_X8_176 (Q.room (by decide) (by decide)) rfl (Nat.le_of_ble_eq_true rfl) rfl (by omega) dX8_charByHistory_14 (fun N h9 y => VX_out X Q nt ⟨Or.inr ⟨y.1, e, he, rfl, y.2.1⟩, by rw [y.2.2]; exact z6, by rw [y.2.2]; exact fc⟩) ?_
  rintro v14 h14 ⟨⟨i, y, rfl, hy, rfl⟩, e14⟩
  rw [e14]
  simp only [Option.toList_some, List.cons_append, List.nil_append]
  have lt := z6.lt w he y (List.mem_of_getElem? hy)
  refine V_get (pc := 17) X fl_X8_180 dX8_charByHistory_17 lt.1 lt.2.1 ?_
  refine V_iret (pc := 20) X Q rfl (chr_ok lt.2.2.2.1) dX8_charByHistory_20 ?_
  exact ⟨⟨e, i, y, he, rfl, rfl, hy, rfl⟩, z6, fc⟩
