/-! THE MODEL: AN END GETS AN OPERATION -/
/-- the row O at base, of which the first k have been passed by b -/
def SLp (tb : Nat → Nat × Nat) (F : MS') (base : Nat) (O : List SO) (b : SO) (k : Nat) : Prop := ∀ (j : Nat) (o : SO), O[j]? = some o → SL tb F (base + j) (if j < k then trb o (crp (O.take j) b) else o)
theorem SLp.all {tb : Nat → Nat × Nat} {F : MS'} {base : Nat} {O : List SO} {b : SO} (z : SLp tb F base O b O.length) : SLs tb F base (crs O b) := fun j o hj => by
  rw [crs_get] at hj
  obtain ⟨a, ha, ea⟩ := Option.map_eq_some_iff.mp hj
  have := z j a ha
  rw [if_pos (List.getElem?_eq_some_iff.mp ha).1] at this
  rw [← ea]
  exact this
theorem pl_all {tb : Nat → Nat × Nat} {F : MS'} {base n : Nat} {K : List KO} (h : ∀ (j : Nat) (k : KO), K[j]? = some k → KM tb F (base + j) n k) : ∃ pl : Nat → Nat, ∀ (j : Nat) (k : KO), K[j]? = some k → F 920 (base + j) = nI (pl j) ∧ pl j ≤ n ∧ (k.1 = 0 → pl j = k.2.2) := by
  have : ∀ j : Nat, ∃ p : Nat, ∀ k : KO, K[j]? = some k → F 920 (base + j) = nI p ∧ p ≤ n ∧ (k.1 = 0 → p = k.2.2) := fun j => by
    cases hk : K[j]? with
    | none => exact ⟨0, fun k hk => absurd hk (by simp)⟩
    | some k =>
      obtain ⟨-, ⟨p, p1, p2, p3⟩, -⟩ := h j k hk
      refine ⟨p, fun k' hk' => ?_⟩
      rw [← Option.some.inj hk']
      exact ⟨p1, p2, p3⟩
  exact ⟨fun j => Classical.choose (this j), fun j k hk => Classical.choose_spec (this j) k hk⟩
theorem m_gets {E : EV} {h : AH} {q : Nat} {A : Nat → Nat} {F : MS'} (mp : MP h q A F) {tb : Nat → Nat × Nat} {e p : Nat} {x : EQ} {b : SO} (he : e ≤ 1) (hp : 1200 ≤ p ∧ p < 1400) (re : RE tb F e x) (sb : SL tb F p b) (hS : (eS x).length ≤ 200) (hW : (eW x).length ≤ 200) (hK : (eK x).length ≤ 200) (wS : ∀ o ∈ eS x, o.1 ≤ 2 ∧ o.2.1 < 2 ^ 27 ∧ o.2.2.2 ≤ 1) (wW : ∀ o ∈ eW x, o.1 ≤ 2 ∧ o.2.1 < 2 ^ 27 ∧ o.2.2.2 ≤ 1) (hb : b.2.1 < 2 ^ 27) (bm : b.2.2.2 ≤ 1) (hC : eC x ≤ (eX x).length) (hM : eMk x ≤ (eX x).length) (v : vO (crp (eW x) (crp (eS x) b)) (eX x).length) (hl : (apO (crp (eW x) (crp (eS x) b)) (eX x)).length ≤ 200) (hw : (crp (eW x) (crp (eS x) b)).1 = 1 → (tb (crp (eW x) (crp (eS x) b)).2.2.1).2 = (crp (eW x) (crp (eS x) b)).2.2.2) : Ct E yX9_gets cX9_gets 4 none 3 0 [.ref q, .int (nI e), .int (nI p)] h (fun v h1 => v = none ∧ ∃ F', MP h1 q A F' ∧ FM h h1 ∧ RE tb F' e (fol x b) ∧ KE F F' (rgE e)) noX := by
  refine Ct_of RX9 (by decide +kernel) rfl (Nat.le_of_ble_eq_true rfl) (fun Γ X nt Q hin => ?_)
  have gm := FM.refl h
  obtain ⟨re1, re2, re3, re4, re5, re6, re7, re8, re9, re10, re11⟩ := re
  have bk := sb.1
  obtain ⟨pl, hpl⟩ := pl_all re11
  have hX := re5.1
  obtain ⟨b11, b12, b13⟩ := crp_bnd (eS x) b bk
  have b1m : (crp (eS x) b).2.2.2 ≤ 1 := by rw [show (crp (eS x) b).2.2.2 = b.2.2.2 from congrArg Prod.snd b13]; exact bm
  obtain ⟨b21, b22, b23⟩ := crp_bnd (eW x) (crp (eS x) b) b11
  have b2m : (crp (eW x) (crp (eS x) b)).2.2.2 ≤ 1 := by rw [show (crp (eW x) (crp (eS x) b)).2.2.2 = (crp (eS x) b).2.2.2 from congrArg Prod.snd b23]; exact b1m
  refine V_aload_n (pc := 0) X 0 dX9_gets_0 rfl ?_
  refine V_iload_n (pc := 1) X 2 dX9_gets_1 rfl ?_
  refine V_sipush (pc := 2) (v := 1400) X dX9_gets_2 (by decide) ?_
  show V _ _ _ _ _ _ (Value.int (nI 1400) :: _)
  refine V_callV (pc := 5) X clk9 (by decide) mp.k _ (m_copies mp (i := p) (j := 1400) (by omega) (by omega)) cw_X9_119 (Q.room (by decide) (by decide)) rfl (Nat.le_of_ble_eq_true rfl) rfl (by omega) dX9_gets_5 (fun _ _ z => z.elim) ?_
  rintro v5 h5 ⟨rfl, F1, mp1, gm1, k1, k2⟩
  simp only [Option.toList_none, List.nil_append]
  have gm1 : FM h h5 := gm1
  have sb1 : SL tb F1 1400 b := sb.os (by rw [k2, if_pos rfl])
  have o1 : ∀ j, j ≠ 1400 → OS F1 j = OS F j := fun j hj => by rw [k2, if_neg hj]
  refine V_iconst (pc := 8) (v := 0) X dX9_gets_8 (by decide) ?_
  show V _ _ _ _ _ _ (Value.int (nI 0) :: _)
  refine V_istore_n (pc := 9) X [(3, .int _), (0, .ref _), (1, .int _), (2, .int _)] dX9_gets_9 rfl (by decide) rfl ?_
  have key : ∀ (n k : Nat), (eS x).length - k < n → k ≤ (eS x).length → ∀ (hr : AH) (Fz : MS'), MP hr q A Fz → FM h hr → KO5 F1 Fz → SLp tb Fz (200 * e) (eS x) (b) k → SL tb Fz 1400 (crp ((eS x).take k) (b)) → (∀ j, ¬ (200 * e ≤ j ∧ j < 200 * e + 200) → j ≠ 1400 → OS Fz j = OS F1 j) → V E Γ 0 hr 10 [(3, .int (nI k)), (0, .ref q), (1, .int (nI e)), (2, .int (nI p))] [] := by
    intro n
    induction n with
    | zero => exact fun k hn => absurd hn (Nat.not_lt_zero _)
    | succ n ih =>
      intro k hn hk hr Fz mpr gmr r1 r2 r3 r4
      refine V_iload_n (pc := 10) X 0 dX9_gets_10 rfl ?_
      refine V_aload_n (pc := 11) X 1 dX9_gets_11 rfl ?_
      refine V_get (pc := 12) X fl_X9_37 dX9_gets_12 mpr.k (mpr.f 910) ?_
      refine V_iload_n (pc := 15) X 2 dX9_gets_15 rfl ?_
      refine M_ald (pc := 16) X mpr ⟨by unfold isA; decide, by decide⟩ (by show _ < 2; omega) dX9_gets_16 ?_
      rw [r1 910 e (by decide), k1 910 e (by decide), re1]
      refine V_icmp_ge (pc := 17) X 39 dX9_gets_17 (by decide) (fun c17 => ?_) (fun c17 => ?_)
      · have hie : ¬ k < (eS x).length := fun y => nI_ge y (by omega) c17
        have hkS : k = (eS x).length := by omega
        subst hkS
        rw [List.take_length] at r3
        have SS : SLs tb Fz (200 * e) (crs (eS x) b) := SLp.all r2
        have k3 := k1.seq r1
        clear ih
        refine V_iconst (pc := 39) (v := 0) X dX9_gets_39 (by decide) ?_
        show V _ _ _ _ _ _ (Value.int (nI 0) :: _)
        refine V_istore_n (pc := 40) X [(3, .int _), (0, .ref _), (1, .int _), (2, .int _)] dX9_gets_40 rfl (by decide) rfl ?_
        have key2 : ∀ (n k : Nat), (eW x).length - k < n → k ≤ (eW x).length → ∀ (hr2 : AH) (Fw : MS'), MP hr2 q A Fw → FM h hr2 → KO5 Fz Fw → SLp tb Fw (400 + 200 * e) (eW x) (crp (eS x) b) k → SL tb Fw 1400 (crp ((eW x).take k) (crp (eS x) b)) → (∀ j, ¬ (400 + 200 * e ≤ j ∧ j < 400 + 200 * e + 200) → j ≠ 1400 → OS Fw j = OS Fz j) → V E Γ 0 hr2 41 [(3, .int (nI k)), (0, .ref q), (1, .int (nI e)), (2, .int (nI p))] [] := by
          intro n
          induction n with
          | zero => exact fun k hn => absurd hn (Nat.not_lt_zero _)
          | succ n ih =>
            intro k hn hk hr2 Fw mpr2 gmr2 s1 s2 s3 s4
            refine V_iload_n (pc := 41) X 0 dX9_gets_41 rfl ?_
            refine V_aload_n (pc := 42) X 1 dX9_gets_42 rfl ?_
            refine V_get (pc := 43) X fl_X9_40 dX9_gets_43 mpr2.k (mpr2.f 911) ?_
            refine V_iload_n (pc := 46) X 2 dX9_gets_46 rfl ?_
            refine M_ald (pc := 47) X mpr2 ⟨by unfold isA; decide, by decide⟩ (by show _ < 2; omega) dX9_gets_47 ?_
            rw [s1 911 e (by decide), k3 911 e (by decide), re3]
            refine V_icmp_ge (pc := 48) X 70 dX9_gets_48 (by decide) (fun c48 => ?_) (fun c48 => ?_)
            · have hie : ¬ k < (eW x).length := fun y => nI_ge y (by omega) c48
              refine V_aload_n (pc := 70) X 1 dX9_gets_70 rfl ?_
              have hkW : k = (eW x).length := by omega
              subst hkW
              rw [List.take_length] at s3
              have WW : SLs tb Fw (400 + 200 * e) (crs (eW x) (crp (eS x) b)) := SLp.all s2
              have k4 := k3.seq s1
              have SS2 : SLs tb Fw (200 * e) (crs (eS x) b) := SS.os (fun k a b => s4 k (by rw [crs_len] at b; omega) (by rw [crs_len] at b; omega))
              have ow5 : ∀ j, ¬ (200 * e ≤ j ∧ j < 200 * e + 200) → ¬ (400 + 200 * e ≤ j ∧ j < 600 + 200 * e) → j ≠ 1400 → OS Fw j = OS F j := fun j a b c => (s4 j (by omega) c).trans ((r4 j a c).trans (o1 j c))
              have hS0 : crs (eS x) b = [] ↔ eS x = [] := by rw [← List.length_eq_zero_iff, ← List.length_eq_zero_iff, crs_len]
              clear ih
              generalize hb2 : crp (eW x) (crp (eS x) b) = b2 at s3 v hl hw b21 b22 b2m
              have kew : KE F Fw (rgE e) := fun a c hac => by
                by_cases ha : 901 ≤ a ∧ a ≤ 905
                · have eo := ow5 c (fun u => hac (by unfold rgE; omega)) (fun u => hac (by unfold rgE; omega)) (fun u => hac (by unfold rgE; omega))
                  unfold OS at eo
                  have e1 := congrArg (fun p => p.1) eo
                  have e2 := congrArg (fun p => p.2.1) eo
                  have e3 := congrArg (fun p => p.2.2.1) eo
                  have e4 := congrArg (fun p => p.2.2.2.1) eo
                  have e5 := congrArg (fun p => p.2.2.2.2) eo
                  rcases (show a = 901 ∨ a = 902 ∨ a = 903 ∨ a = 904 ∨ a = 905 by omega) with rfl | rfl | rfl | rfl | rfl
                  · exact e1
                  · exact e2
                  · exact e3
                  · exact e4
                  · exact e5
                · exact k4 a c ha
              have txw : TM tb Fw e (eX x) := re5.same (k4 909 e (by decide)) (fun a c h1 h2 _ _ => k4 a c (by omega))
              refine V_get (pc := 71) X fl_X9_7 dX9_gets_71 mpr2.k (mpr2.f 901) ?_
              refine V_sipush (pc := 74) (v := 1400) X dX9_gets_74 (by decide) ?_
              show V _ _ _ _ _ _ (Value.int (nI 1400) :: _)
              refine M_ald (pc := 77) X mpr2 ⟨by unfold isA; decide, by decide⟩ (by show _ < 1401; omega) dX9_gets_77 ?_
              rw [s3.2.1]
              refine V_if_ne (pc := 78) X 82 dX9_gets_78 (by decide) (fun c78 => ?_) (fun c78 => ?_)
              · have k78 : b2.1 ≠ 0 := fun y => c78 (by rw [y]; rfl)
                have hbp : b2.2.1 < 2 ^ 28 := by have := vO_p v; omega
                refine V_aload_n (pc := 82) X 1 dX9_gets_82 rfl ?_
                refine V_iload_n (pc := 83) X 2 dX9_gets_83 rfl ?_
                refine V_sipush (pc := 84) (v := 1400) X dX9_gets_84 (by decide) ?_
                show V _ _ _ _ _ _ (Value.int (nI 1400) :: _)
                refine V_callV (pc := 87) X clk9 (by decide) mpr2.k _ (m_carries mpr2 (t := e) (i := 1400) (by omega) (by omega) s3 txw v hl hw) cw_X9_128 (Q.room (by decide) (by decide)) rfl (Nat.le_of_ble_eq_true rfl) rfl (by omega) dX9_gets_87 (fun _ _ z => z.elim) ?_
                rintro v87 h87 ⟨rfl, Fc, mpc, gmc, kc, tc⟩
                simp only [Option.toList_none, List.nil_append]
                have gmc2 := gmr2.seq gmc
                have sc : SL tb Fc 1400 b2 := s3.os (OS_of (fun i a b => kc.1 i _ (by omega)))
                have fcx : ∀ a c, ¬ (906 ≤ a ∧ a ≤ 909) → ¬ (901 ≤ a ∧ a ≤ 905) → Fc a c = F a c := fun a c h1 h2 => (kc.1 a c h1).trans (k4 a c h2)
                refine V_aload_n (pc := 90) X 1 dX9_gets_90 rfl ?_
                refine V_get (pc := 91) X fl_X9_46 dX9_gets_91 mpc.k (mpc.f 913) ?_
                refine V_iload_n (pc := 94) X 2 dX9_gets_94 rfl ?_
                refine V_aload_n (pc := 95) X 1 dX9_gets_95 rfl ?_
                refine V_aload_n (pc := 96) X 1 dX9_gets_96 rfl ?_
                refine V_get (pc := 97) X fl_X9_46 dX9_gets_97 mpc.k (mpc.f 913) ?_
                refine V_iload_n (pc := 100) X 2 dX9_gets_100 rfl ?_
                refine M_ald (pc := 101) X mpc ⟨by unfold isA; decide, by decide⟩ (by show _ < 2; omega) dX9_gets_101 ?_
                rw [fcx 913 e (by decide) (by decide), re6]
                refine V_sipush (pc := 102) (v := 1400) X dX9_gets_102 (by decide) ?_
                show V _ _ _ _ _ _ (Value.int (nI 1400) :: _)
                refine V_callV (pc := 105) X clk9 (by decide) mpc.k _ (m_follows mpc (by omega) sc (by omega) (by omega)) cw_X9_108 (Q.room (by decide) (by decide)) rfl (Nat.le_of_ble_eq_true rfl) rfl (by omega) dX9_gets_105 (fun _ _ z => z.elim) ?_
                rintro v105 h105 ⟨rfl, e105⟩
                rw [e105]
                simp only [Option.toList_some, List.cons_append, List.nil_append]
                refine M_ast (pc := 108) X mpc ⟨by unfold isA; decide, by decide⟩ (by show _ < 2; omega) dX9_gets_108 (fun h108 mp108 fm108 => ?_)
                have gm108 := gmc2.seq fm108
                have sd : SL tb (fu Fc 913 e (nI (mvq b2 (eC x)))) 1400 b2 := sc.os (OS_of (fun i a b => fu_i (by omega)))
                refine V_aload_n (pc := 109) X 1 dX9_gets_109 rfl ?_
                refine V_get (pc := 110) X fl_X9_49 dX9_gets_110 mp108.k (mp108.f 914) ?_
                refine V_iload_n (pc := 113) X 2 dX9_gets_113 rfl ?_
                refine V_aload_n (pc := 114) X 1 dX9_gets_114 rfl ?_
                refine V_sipush (pc := 115) (v := 1400) X dX9_gets_115 (by decide) ?_
                show V _ _ _ _ _ _ (Value.int (nI 1400) :: _)
                refine V_callV (pc := 118) X clk9 (by decide) mp108.k _ (m_behind mp108 (by omega) sd k78 (by omega)) cw_X9_131 (Q.room (by decide) (by decide)) rfl (Nat.le_of_ble_eq_true rfl) rfl (by omega) dX9_gets_118 (fun _ _ z => z.elim) ?_
                rintro v118 h118 ⟨rfl, e118⟩
                rw [e118]
                simp only [Option.toList_some, List.cons_append, List.nil_append]
                refine M_ast (pc := 121) X mp108 ⟨by unfold isA; decide, by decide⟩ (by show _ < 2; omega) dX9_gets_121 (fun h121 mp121 fm121 => ?_)
                have gm121 := gm108.seq fm121
                have se : SL tb (fu (fu Fc 913 e (nI (mvq b2 (eC x)))) 914 e (nI (bhd b2))) 1400 b2 := sd.os (OS_of (fun i a b => fu_i (by omega)))
                obtain ⟨Fd, eFd⟩ : ∃ Fd, Fd = fu (fu Fc 913 e (nI (mvq b2 (eC x)))) 914 e (nI (bhd b2)) := ⟨_, rfl⟩
                rw [← eFd] at se mp121
                have fd : ∀ a c, ¬ ((a = 913 ∨ a = 914) ∧ c = e) → Fd a c = Fc a c := fun a c h1 => by rw [eFd]; exact (if_neg (fun u => h1 ⟨Or.inr u.1, u.2⟩)).trans (if_neg (fun u => h1 ⟨Or.inl u.1, u.2⟩))
                have fd3 : Fd 913 e = nI (mvq b2 (eC x)) := by rw [eFd, fu_i (by decide), fu_s]
                have fd4 : Fd 914 e = nI (bhd b2) := by rw [eFd, fu_s]
                refine V_aload_n (pc := 122) X 1 dX9_gets_122 rfl ?_
                refine V_iload_n (pc := 123) X 2 dX9_gets_123 rfl ?_
                refine V_sipush (pc := 124) (v := 1400) X dX9_gets_124 (by decide) ?_
                show V _ _ _ _ _ _ (Value.int (nI 1400) :: _)
                refine V_callV (pc := 127) X clk9 (by decide) mp121.k _ (m_movesKept mp121 (N := (eK x).length) (pl := pl) he (by omega) se hbp (by rw [fd 923 e (by omega), fcx 923 e (by decide) (by decide), re10]) hK (fun k hk => by
                    obtain ⟨kk, hkk⟩ : ∃ kk, (eK x)[k]? = some kk := ⟨_, List.getElem?_eq_getElem hk⟩
                    obtain ⟨p1, p2, p3⟩ := hpl k kk hkk
                    exact ⟨by rw [fd 920 _ (by omega), fcx 920 _ (by decide) (by decide)]; exact p1, by omega⟩)) cw_X9_134 (Q.room (by decide) (by decide)) rfl (Nat.le_of_ble_eq_true rfl) rfl (by omega) dX9_gets_127 (fun _ _ z => z.elim) ?_
                rintro v127 h127 ⟨rfl, Fk, mpk, gmk, kk1, kk2⟩
                simp only [Option.toList_none, List.nil_append]
                refine V_vret (pc := 130) X Q rfl dX9_gets_130 ?_
                have ef : fol x b = (apO b2 (eX x), crs (eS x) b, crs (eW x) (crp (eS x) b), (eK x).map (mvk b2), mvp b2 (eC x), bhd b2, eR x) := by
                  unfold fol
                  dsimp only
                  rw [show crp x.2.2.1 (crp x.2.1 b) = b2 from hb2, if_neg k78]
                  rfl
                have emq : ∀ c, mvq b2 c = mvp b2 c := fun c => if_neg k78
                have fk : ∀ a c, a ≠ 920 → ¬ ((a = 913 ∨ a = 914) ∧ c = e) → Fk a c = Fc a c := fun a c h1 h2 => (kk1 a c h1).trans (fd a c h2)
                have fkF : ∀ a c, a ≠ 920 → ¬ ((a = 913 ∨ a = 914) ∧ c = e) → ¬ (906 ≤ a ∧ a ≤ 909) → ¬ (901 ≤ a ∧ a ≤ 905) → Fk a c = F a c := fun a c h1 h2 h3 h4 => (fk a c h1 h2).trans (fcx a c h3 h4)
                have oskw : ∀ j, OS Fk j = OS Fw j := fun j => OS_of (fun i a b => (fk i j (by omega) (by omega)).trans (kc.1 i j (by omega)))
                refine ⟨rfl, Fk, mpk, gm121.seq gmk, ?_, fun a c hac => ?_⟩
                · rw [ef]
                  refine ⟨?_, SS2.os (fun k _ _ => oskw k), ?_, WW.os (fun k _ _ => oskw k), tc.same (fk 909 e (by decide) (by omega)) (fun a c h1 h2 _ _ => fk a c (by omega) (by omega)), ?_, ?_, ?_, ?_, ?_, fun j k hj => ?_⟩
                  · rw [fkF 910 e (by decide) (by omega) (by decide) (by decide), re1]; show nI _ = nI (crs (eS x) b).length; rw [crs_len]
                  · rw [fkF 911 e (by decide) (by omega) (by decide) (by decide), re3]; show nI _ = nI (crs (eW x) (crp (eS x) b)).length; rw [crs_len]
                  · rw [kk1 913 e (by decide), fd3, emq]; rfl
                  · rw [kk1 914 e (by decide), fd4]; rfl
                  · rw [fkF 912 e (by decide) (by omega) (by decide) (by decide)]; exact re8
                  · rw [fkF 917 e (by decide) (by omega) (by decide) (by decide), re9]
                    show _ = if crs (eS x) b = [] then 0 else 1
                    by_cases u : eS x = []
                    · rw [if_pos u, if_pos (hS0.mpr u)]
                    · rw [if_neg u, if_neg (fun w => u (hS0.mp w))]
                  · rw [fkF 923 e (by decide) (by omega) (by decide) (by decide), re10]; show nI _ = nI ((eK x).map (mvk b2)).length; rw [List.length_map]
                  · have hj : ((eK x).map (mvk b2))[j]? = some k := hj
                    rw [List.getElem?_map] at hj
                    obtain ⟨k0, hk0, ek⟩ := Option.map_eq_some_iff.mp hj
                    have hjl := (List.getElem?_eq_some_iff.mp hk0).1
                    obtain ⟨q1, -, q3, q4⟩ := re11 j k0 hk0
                    obtain ⟨p1, p2, p3⟩ := hpl j k0 hk0
                    have ek1 : k.1 = k0.1 := by rw [← ek]; unfold mvk; split <;> rfl
                    have ek2 : k.2.1 = k0.2.1 := by rw [← ek]; unfold mvk; split <;> rfl
                    refine ⟨?_, ⟨mvp b2 (pl j), ?_, mvp_le v k78 p2, fun u => ?_⟩, ?_, fun u => ?_⟩
                    · rw [fkF 919 _ (by decide) (by omega) (by decide) (by decide), ek1]; exact q1
                    · rw [kk2, if_pos (by omega), show 200 * e + j - 200 * e = j by omega, emq]
                    · rw [← ek, p3 (by omega)]
                      unfold mvk
                      rw [if_pos (by omega)]
                    · rw [fkF 921 _ (by decide) (by omega) (by decide) (by decide), ek2]; exact q3
                    · rw [fkF 922 _ (by decide) (by omega) (by decide) (by decide), ek2]; exact q4 (by omega)
                · unfold rgE at hac
                  by_cases h920 : a = 920
                  · subst h920
                    rw [kk2, if_neg (by omega), fd 920 c (by omega)]
                    exact fcx 920 c (by decide) (by decide)
                  · rw [fk a c h920 (by omega)]
                    by_cases h6 : 906 ≤ a ∧ a ≤ 908
                    · rw [kc.2.1 a c h6.1 h6.2 (by omega)]
                      exact k4 a c (by omega)
                    · by_cases h9 : a = 909
                      · subst h9
                        rw [kc.2.2 c (by omega)]
                        exact k4 909 c (by decide)
                      · rw [kc.1 a c (by omega)]
                        exact kew a c (by unfold rgE; omega)
              · have k78 : b2.1 = 0 := (nI_eq (b := 0) (by omega) (by decide)).mp c78
                refine V_vret (pc := 81) X Q rfl dX9_gets_81 ?_
                refine ⟨rfl, Fw, mpr2, gmr2, ?_, kew⟩
                have ef : fol x b = (x.1, crs (eS x) b, crs (eW x) (crp (eS x) b), x.2.2.2) := by
                  unfold fol
                  dsimp only
                  rw [show crp x.2.2.1 (crp x.2.1 b) = b2 from hb2, if_pos k78]
                  rfl
                rw [ef]
                refine ⟨?_, SS2, ?_, WW, txw, (k4 913 e (by decide)).trans re6, (k4 914 e (by decide)).trans re7, (k4 912 e (by decide)).trans re8, ?_, (k4 923 e (by decide)).trans re10, fun j k hj => ?_⟩
                · rw [k4 910 e (by decide), re1]; show nI _ = nI (crs (eS x) b).length; rw [crs_len]
                · rw [k4 911 e (by decide), re3]; show nI _ = nI (crs (eW x) (crp (eS x) b)).length; rw [crs_len]
                · rw [k4 917 e (by decide), re9]
                  show _ = if crs (eS x) b = [] then 0 else 1
                  by_cases u : eS x = []
                  · rw [if_pos u, if_pos (hS0.mpr u)]
                  · rw [if_neg u, if_neg (fun w => u (hS0.mp w))]
                · unfold KM
                  rw [k4 919 _ (by decide), k4 920 _ (by decide), k4 921 _ (by decide), k4 922 _ (by decide)]
                  exact re11 j k hj
            · have hlt : k < (eW x).length := by
                rcases Nat.lt_or_ge (k) ((eW x).length) with y | y
                · exact y
                · exact absurd (nI_le y (by omega)) c48
              obtain ⟨o, ho⟩ : ∃ o, (eW x)[k]? = some o := ⟨_, List.getElem?_eq_getElem hlt⟩
              have so : SL tb Fw (400 + 200 * e + k) o := by have := s2 k o ho; rwa [if_neg (Nat.lt_irrefl _)] at this
              obtain ⟨wo1, wo2, wo3⟩ := wW o (List.mem_of_getElem? ho)
              obtain ⟨cb1, cb2, cb3⟩ := crp_bnd ((eW x).take k) (crp (eS x) b) b11
              rw [List.length_take] at cb2
              have cm : (crp ((eW x).take k) (crp (eS x) b)).2.2.2 ≤ 1 := by rw [show (crp ((eW x).take k) (crp (eS x) b)).2.2.2 = (crp (eS x) b).2.2.2 from congrArg Prod.snd cb3]; exact b1m
              refine V_aload_n (pc := 51) X 1 dX9_gets_51 rfl ?_
              refine V_iload_n (pc := 52) X 2 dX9_gets_52 rfl ?_
              refine V_callS (pc := 53) X _ (m_waitingAt (e := e)) cw_X9_112 (Q.room (by decide) (by decide)) rfl (Nat.le_of_ble_eq_true rfl) rfl (by omega) dX9_gets_53 (fun _ _ z => z.elim) ?_
              rintro v53 h53 ⟨rfl, e53⟩
              rw [e53]
              simp only [Option.toList_some, List.cons_append, List.nil_append]
              refine V_iload_n (pc := 56) X 0 dX9_gets_56 rfl ?_
              refine V_iadd (pc := 57) X dX9_gets_57 ?_
              rw [nI_add]
              refine V_sipush (pc := 58) (v := 1400) X dX9_gets_58 (by decide) ?_
              show V _ _ _ _ _ _ (Value.int (nI 1400) :: _)
              refine V_callV (pc := 61) X clk9 (by decide) mpr2.k _ (m_crosses (i := 400 + 200 * e + k) (j := 1400) mpr2 (by omega) (by omega) (by omega) so s3 (by omega) (by omega) wo3 cm) cw_X9_166 (Q.room (by decide) (by decide)) rfl (Nat.le_of_ble_eq_true rfl) rfl (by omega) dX9_gets_61 (fun _ _ z => z.elim) ?_
              rintro v61 h61 ⟨rfl, Fy, mpy, gmy, y1, y2, y3, y4⟩
              simp only [Option.toList_none, List.nil_append]
              refine V_inc1 (pc := 64) X 0 [(3, .int _), (0, .ref _), (1, .int _), (2, .int _)] dX9_gets_64 rfl (by decide) rfl ?_
              rw [nI_1]
              refine V_goto (pc := 67) X 41 dX9_gets_67 (by decide) ?_
              refine ih (k + 1) (by omega) (by omega) _ Fy mpy (gmr2.seq gmy) (s1.seq y1) (fun j a ha => ?_) (by rw [crp_succ _ _ _ _ ho]; exact y3) (fun j hj hj2 => (y4 j (by omega) hj2).trans (s4 j hj hj2))
              by_cases ej : j = k
              · subst ej
                rw [ho] at ha
                have ea : o = a := Option.some.inj ha
                rw [if_pos (Nat.lt_succ_self _), ← ea]
                exact y2
              · have hjl := (List.getElem?_eq_some_iff.mp ha).1
                have z := (s2 j a ha).os (y4 (400 + 200 * e + j) (by omega) (by omega))
                rw [show (if j < k + 1 then trb a (crp ((eW x).take j) (crp (eS x) b)) else a) = if j < k then trb a (crp ((eW x).take j) (crp (eS x) b)) else a by
                  by_cases u : j < k
                  · rw [if_pos u, if_pos (by omega)]
                  · rw [if_neg u, if_neg (by omega)]]
                exact z
        exact key2 ((eW x).length + 1) 0 (by omega) (Nat.zero_le _) _ Fz mpr gmr (KO5.refl Fz) (fun j o ho => by rw [if_neg (Nat.not_lt_zero _)]; have hj := (List.getElem?_eq_some_iff.mp ho).1; exact (re4 j o ho).os ((r4 _ (by omega) (by omega)).trans (o1 _ (by omega)))) r3 (fun _ _ _ => rfl)
      · have hlt : k < (eS x).length := by
          rcases Nat.lt_or_ge (k) ((eS x).length) with y | y
          · exact y
          · exact absurd (nI_le y (by omega)) c17
        obtain ⟨o, ho⟩ : ∃ o, (eS x)[k]? = some o := ⟨_, List.getElem?_eq_getElem hlt⟩
        have so : SL tb Fz (200 * e + k) o := by have := r2 k o ho; rwa [if_neg (Nat.lt_irrefl _)] at this
        obtain ⟨wo1, wo2, wo3⟩ := wS o (List.mem_of_getElem? ho)
        obtain ⟨cb1, cb2, cb3⟩ := crp_bnd ((eS x).take k) (b) bk
        rw [List.length_take] at cb2
        have cm : (crp ((eS x).take k) (b)).2.2.2 ≤ 1 := by rw [show (crp ((eS x).take k) (b)).2.2.2 = (b).2.2.2 from congrArg Prod.snd cb3]; exact bm
        refine V_aload_n (pc := 20) X 1 dX9_gets_20 rfl ?_
        refine V_iload_n (pc := 21) X 2 dX9_gets_21 rfl ?_
        refine V_callS (pc := 22) X _ (m_sentAt (e := e)) cw_X9_116 (Q.room (by decide) (by decide)) rfl (Nat.le_of_ble_eq_true rfl) rfl (by omega) dX9_gets_22 (fun _ _ z => z.elim) ?_
        rintro v22 h22 ⟨rfl, e22⟩
        rw [e22, Nat.zero_add]
        simp only [Option.toList_some, List.cons_append, List.nil_append]
        refine V_iload_n (pc := 25) X 0 dX9_gets_25 rfl ?_
        refine V_iadd (pc := 26) X dX9_gets_26 ?_
        rw [nI_add]
        refine V_sipush (pc := 27) (v := 1400) X dX9_gets_27 (by decide) ?_
        show V _ _ _ _ _ _ (Value.int (nI 1400) :: _)
        refine V_callV (pc := 30) X clk9 (by decide) mpr.k _ (m_crosses (i := 200 * e + k) (j := 1400) mpr (by omega) (by omega) (by omega) so r3 (by omega) (by omega) wo3 cm) cw_X9_166 (Q.room (by decide) (by decide)) rfl (Nat.le_of_ble_eq_true rfl) rfl (by omega) dX9_gets_30 (fun _ _ z => z.elim) ?_
        rintro v30 h30 ⟨rfl, Fy, mpy, gmy, y1, y2, y3, y4⟩
        simp only [Option.toList_none, List.nil_append]
        refine V_inc1 (pc := 33) X 0 [(3, .int _), (0, .ref _), (1, .int _), (2, .int _)] dX9_gets_33 rfl (by decide) rfl ?_
        rw [nI_1]
        refine V_goto (pc := 36) X 10 dX9_gets_36 (by decide) ?_
        refine ih (k + 1) (by omega) (by omega) _ Fy mpy (gmr.seq gmy) (r1.seq y1) (fun j a ha => ?_) (by rw [crp_succ _ _ _ _ ho]; exact y3) (fun j hj hj2 => (y4 j (by omega) hj2).trans (r4 j hj hj2))
        by_cases ej : j = k
        · subst ej
          rw [ho] at ha
          have ea : o = a := Option.some.inj ha
          rw [if_pos (Nat.lt_succ_self _), ← ea]
          exact y2
        · have hjl := (List.getElem?_eq_some_iff.mp ha).1
          have z := (r2 j a ha).os (y4 (200 * e + j) (by omega) (by omega))
          rw [show (if j < k + 1 then trb a (crp ((eS x).take j) (b)) else a) = if j < k then trb a (crp ((eS x).take j) (b)) else a by
            by_cases u : j < k
            · rw [if_pos u, if_pos (by omega)]
            · rw [if_neg u, if_neg (by omega)]]
          exact z
  exact key ((eS x).length + 1) 0 (by omega) (Nat.zero_le _) _ F1 mp1 gm1 (KO5.refl F1) (fun j o ho => by rw [if_neg (Nat.not_lt_zero _)]; exact (re2 j o ho).os (o1 _ (by have := (List.getElem?_eq_some_iff.mp ho).1; omega))) sb1 (fun _ _ _ => rfl)
