/-! THE MODEL: AN END MAKES AN OPERATION -/
def kof (o : SO) : KO := (if o.1 = 1 then 1 else 0, o.2.2.1, o.2.1)
/-- the places of end e, what is up from it, and the number of operations -/
def rgM (e x y : Nat) : Prop := rgE e x y ∨ (x = 926 ∧ y = 0)
def mk9 (x : EQ) (o : SO) (f : Bool) : EQ := (apO o (eX x), eS x, eW x ++ [o], if f then (eK x).map (mvk o) ++ [kof o] else (eK x).map (mvk o), bhd o, mvp o (eMk x), eR x)
/-- what the class has made of it -/
def mkK (x : EQ) (o : SO) (f : Bool) : EQ := eP (mak x o) (if f then (eK x).map (mvk o) ++ [kof o] else (eK x).map (mvk o))
theorem m_makes {E : EV} {h : AH} {q : Nat} {A : Nat → Nat} {F : MS'} (mp : MP h q A F) {tb : Nat → Nat × Nat} {e M : Nat} {x : EQ} {o : SO} {f : Bool} (he : e ≤ 1) (re : RE tb F e x) (hM : F 926 0 = nI M) (hM2 : M < 200) (hS : (eS x).length ≤ 200) (hW : (eW x).length < 200) (hK : (eK x).length < 200) (hid : eS x = [] → eW x = []) (o0 : o.1 ≠ 0) (om : o.2.2.2 = e) (v : vO o (eX x).length) (hl : (apO o (eX x)).length ≤ 200) (hy : o.1 = 1 → o.2.2.1 = M ∧ (tb o.2.2.1).2 = e) (hMk : eMk x ≤ (eX x).length) : Ct E yX9_makes cX9_makes 8 none 3 0 [.ref q, .int (nI e), .int (nI o.1), .int (nI o.2.1), .int (nI (tb o.2.2.1).1), .int (if f then 1 else 0)] h (fun v h1 => v = none ∧ ∃ F', MP h1 q A F' ∧ FM h h1 ∧ RE tb F' e (mkK x o f) ∧ F' 926 0 = nI (M + 1) ∧ (eS x ≠ [] → KE F F' (rgM e)) ∧ (eS x = [] → KE F F' (fun a b => rgM e a b ∨ rgU e a b) ∧ F' 918 e = 1 ∧ F' 915 e = nI 1 ∧ F' 916 e = nI (eR x) ∧ SLs tb F' (800 + 200 * e) [o])) noX := by
  refine Ct_of RX9 (by decide +kernel) rfl (Nat.le_of_ble_eq_true rfl) (fun Γ X nt Q hin => ?_)
  have gm := FM.refl h
  obtain ⟨re1, re2, re3, re4, re5, re6, re7, re8, re9, re10, re11⟩ := re
  have ok := vO_k v
  have op := vO_p v
  have hX := re5.1
  obtain ⟨pl, hpl⟩ := pl_all re11
  refine V_iload_n (pc := 0) X 1 dX9_makes_0 rfl ?_
  refine V_callS (pc := 1) X _ (m_waitingAt (e := e)) cw_X9_112 (Q.room (by decide) (by decide)) rfl (Nat.le_of_ble_eq_true rfl) rfl (by omega) dX9_makes_1 (fun _ _ z => z.elim) ?_
  rintro v1 h1 ⟨rfl, e1⟩
  rw [e1]
  simp only [Option.toList_some, List.cons_append, List.nil_append]
  refine V_aload_n (pc := 4) X 0 dX9_makes_4 rfl ?_
  refine V_get (pc := 5) X fl_X9_40 dX9_makes_5 mp.k (mp.f 911) ?_
  refine V_iload_n (pc := 8) X 1 dX9_makes_8 rfl ?_
  refine M_ald (pc := 9) X mp ⟨by unfold isA; decide, by decide⟩ (by show _ < 2; omega) dX9_makes_9 ?_
  rw [re3]
  refine V_iadd (pc := 10) X dX9_makes_10 ?_
  rw [nI_add]
  refine V_istore (pc := 11) X [(6, .int _), (0, .ref _), (1, .int _), (2, .int _), (3, .int _), (4, .int _), (5, .int _)] dX9_makes_11 (by decide) rfl ?_
  refine V_aload_n (pc := 13) X 1 dX9_makes_13 rfl ?_
  refine V_get (pc := 14) X fl_X9_7 dX9_makes_14 mp.k (mp.f 901) ?_
  refine V_iload (pc := 17) X 0 dX9_makes_17 rfl ?_
  refine V_iload_n (pc := 19) X 3 dX9_makes_19 rfl ?_
  refine M_ast (pc := 20) X mp ⟨by unfold isA; decide, by decide⟩ (by show _ < 1401; omega) dX9_makes_20 (fun h20 mp20 fm20 => ?_)
  have gm20 := gm.seq fm20
  refine V_aload_n (pc := 21) X 1 dX9_makes_21 rfl ?_
  refine V_get (pc := 22) X fl_X9_13 dX9_makes_22 mp20.k (mp20.f 902) ?_
  refine V_iload (pc := 25) X 0 dX9_makes_25 rfl ?_
  refine V_iload_n (pc := 27) X 4 dX9_makes_27 rfl ?_
  refine M_ast (pc := 28) X mp20 ⟨by unfold isA; decide, by decide⟩ (by show _ < 1401; omega) dX9_makes_28 (fun h28 mp28 fm28 => ?_)
  have gm28 := gm20.seq fm28
  refine V_aload_n (pc := 29) X 1 dX9_makes_29 rfl ?_
  refine V_get (pc := 30) X fl_X9_16 dX9_makes_30 mp28.k (mp28.f 903) ?_
  refine V_iload (pc := 33) X 0 dX9_makes_33 rfl ?_
  refine V_iload (pc := 35) X 5 dX9_makes_35 rfl ?_
  refine M_ast (pc := 37) X mp28 ⟨by unfold isA; decide, by decide⟩ (by show _ < 1401; omega) dX9_makes_37 (fun h37 mp37 fm37 => ?_)
  have gm37 := gm28.seq fm37
  refine V_aload_n (pc := 38) X 1 dX9_makes_38 rfl ?_
  refine V_get (pc := 39) X fl_X9_19 dX9_makes_39 mp37.k (mp37.f 904) ?_
  refine V_iload (pc := 42) X 0 dX9_makes_42 rfl ?_
  refine V_aload_n (pc := 44) X 1 dX9_makes_44 rfl ?_
  refine V_get (pc := 45) X fl_X9_125 dX9_makes_45 mp37.k (mp37.s 926) ?_
  rw [show (fu (fu (fu F 901 _ _) 902 _ _) 903 _ _) 926 0 = F 926 0 from (fu_i (by decide)).trans ((fu_i (by decide)).trans (fu_i (by decide))), hM]
  refine M_ast (pc := 48) X mp37 ⟨by unfold isA; decide, by decide⟩ (by show _ < 1401; omega) dX9_makes_48 (fun h48 mp48 fm48 => ?_)
  have gm48 := gm37.seq fm48
  refine V_aload_n (pc := 49) X 1 dX9_makes_49 rfl ?_
  refine V_get (pc := 50) X fl_X9_22 dX9_makes_50 mp48.k (mp48.f 905) ?_
  refine V_iload (pc := 53) X 0 dX9_makes_53 rfl ?_
  refine V_iload_n (pc := 55) X 2 dX9_makes_55 rfl ?_
  refine M_ast (pc := 56) X mp48 ⟨by unfold isA; decide, by decide⟩ (by show _ < 1401; omega) dX9_makes_56 (fun h56 mp56 fm56 => ?_)
  have gm56 := gm48.seq fm56
  obtain ⟨F1, eF1⟩ : ∃ F1, F1 = fu (fu (fu (fu (fu F 901 (400 + 200 * e + (eW x).length) (nI o.1)) 902 (400 + 200 * e + (eW x).length) (nI o.2.1)) 903 (400 + 200 * e + (eW x).length) (nI (tb o.2.2.1).1)) 904 (400 + 200 * e + (eW x).length) (nI M)) 905 (400 + 200 * e + (eW x).length) (nI e) := ⟨_, rfl⟩
  rw [← eF1] at mp56
  have s1 : SL tb F1 (400 + 200 * e + (eW x).length) o := by
    rw [eF1]
    refine ⟨ok, ?_, fun _ => ?_, fun u => ⟨?_, ?_⟩, ?_⟩
    · rw [fu_i (by decide), fu_i (by decide), fu_i (by decide), fu_i (by decide), fu_s]
    · rw [fu_i (by decide), fu_i (by decide), fu_i (by decide), fu_s]
    · rw [fu_i (by decide), fu_i (by decide), fu_s]
    · rw [fu_i (by decide), fu_s, (hy u).1]
    · rw [fu_s, om]
  have f1o : ∀ j, j ≠ 400 + 200 * e + (eW x).length → OS F1 j = OS F j := fun j hj => OS_of (fun i a b => by rw [eF1, fu_j hj, fu_j hj, fu_j hj, fu_j hj, fu_j hj])
  have f1k : KO5 F F1 := fun a b hab => by rw [eF1, fu_i (by omega), fu_i (by omega), fu_i (by omega), fu_i (by omega), fu_i (by omega)]
  refine V_aload_n (pc := 57) X 1 dX9_makes_57 rfl ?_
  refine V_get (pc := 58) X fl_X9_40 dX9_makes_58 mp56.k (mp56.f 911) ?_
  refine V_iload_n (pc := 61) X 2 dX9_makes_61 rfl ?_
  refine V_dup2 (pc := 62) X dX9_makes_62 rfl rfl ?_
  refine M_ald (pc := 63) X mp56 ⟨by unfold isA; decide, by decide⟩ (by show _ < 2; omega) dX9_makes_63 ?_
  rw [f1k 911 e (by decide), re3]
  refine V_iconst (pc := 64) (v := 1) X dX9_makes_64 (by decide) ?_
  show V _ _ _ _ _ _ (Value.int (nI 1) :: _)
  refine V_iadd (pc := 65) X dX9_makes_65 ?_
  rw [nI_add]
  refine M_ast (pc := 66) X mp56 ⟨by unfold isA; decide, by decide⟩ (by show _ < 2; omega) dX9_makes_66 (fun h66 mp66 fm66 => ?_)
  have gm66 := gm56.seq fm66
  refine V_aload_n (pc := 67) X 1 dX9_makes_67 rfl ?_
  refine V_dup (pc := 68) X dX9_makes_68 rfl ?_
  refine V_get (pc := 69) X fl_X9_125 dX9_makes_69 mp66.k (mp66.s 926) ?_
  rw [show fu F1 911 e _ 926 0 = F1 926 0 from fu_i (by decide), f1k 926 0 (by decide), hM]
  refine V_iconst (pc := 72) (v := 1) X dX9_makes_72 (by decide) ?_
  show V _ _ _ _ _ _ (Value.int (nI 1) :: _)
  refine V_iadd (pc := 73) X dX9_makes_73 ?_
  rw [nI_add]
  refine M_put (pc := 74) X mp66 (i := 926) (by unfold isS; decide) fl_X9_125 dX9_makes_74 (fun h74 mp74 fm74 => ?_)
  have gm74 := gm66.seq fm74
  obtain ⟨F2, eF2⟩ : ∃ F2, F2 = fu (fu F1 911 e (nI ((eW x).length + 1))) 926 0 (nI (M + 1)) := ⟨_, rfl⟩
  rw [← eF2] at mp74
  have f2k : ∀ a b, ¬ (a = 911 ∧ b = e) → ¬ (a = 926 ∧ b = 0) → F2 a b = F1 a b := fun a b h1 h2 => by rw [eF2]; exact (if_neg h2).trans (if_neg h1)
  have f2w : F2 911 e = nI ((eW x).length + 1) := by rw [eF2, fu_i (by decide), fu_s]
  have f2m : F2 926 0 = nI (M + 1) := by rw [eF2, fu_s]
  have s2 : SL tb F2 (400 + 200 * e + (eW x).length) o := s1.os (OS_of (fun i a b => f2k i _ (by omega) (by omega)))
  have tx2 : TM tb F2 e (eX x) := re5.same ((f2k 909 e (by omega) (by omega)).trans (f1k 909 e (by decide))) (fun a b h1 h2 _ _ => (f2k a b (by omega) (by omega)).trans (f1k a b (by omega)))
  have f2F : ∀ a b, ¬ (901 ≤ a ∧ a ≤ 905) → a ≠ 911 → a ≠ 926 → F2 a b = F a b := fun a b h1 h2 h3 => (f2k a b (by omega) (by omega)).trans (f1k a b h1)
  refine V_aload_n (pc := 77) X 1 dX9_makes_77 rfl ?_
  refine V_iload_n (pc := 78) X 2 dX9_makes_78 rfl ?_
  refine V_iload (pc := 79) X 0 dX9_makes_79 rfl ?_
  refine V_callV (pc := 81) X clk9 (by decide) mp74.k _ (m_carries mp74 (t := e) (i := 400 + 200 * e + (eW x).length) (by omega) (by omega) s2 tx2 v hl (fun u => by rw [(hy u).2, om])) cw_X9_128 (Q.room (by decide) (by decide)) rfl (Nat.le_of_ble_eq_true rfl) rfl (by omega) dX9_makes_81 (fun _ _ z => z.elim) ?_
  rintro v81 h81 ⟨rfl, Fc, mpc, gmc, kc, tc⟩
  simp only [Option.toList_none, List.nil_append]
  have gmc2 := gm74.seq gmc
  have sc : SL tb Fc (400 + 200 * e + (eW x).length) o := s2.os (OS_of (fun i a b => kc.1 i _ (by omega)))
  have fcx : ∀ a c, ¬ (906 ≤ a ∧ a ≤ 909) → Fc a c = F2 a c := fun a c h1 => kc.1 a c h1
  refine V_aload_n (pc := 84) X 1 dX9_makes_84 rfl ?_
  refine V_get (pc := 85) X fl_X9_46 dX9_makes_85 mpc.k (mpc.f 913) ?_
  refine V_iload_n (pc := 88) X 2 dX9_makes_88 rfl ?_
  refine V_aload_n (pc := 89) X 1 dX9_makes_89 rfl ?_
  refine V_iload (pc := 90) X 0 dX9_makes_90 rfl ?_
  refine V_callV (pc := 92) X clk9 (by decide) mpc.k _ (m_behind mpc (by omega) sc o0 (by omega)) cw_X9_131 (Q.room (by decide) (by decide)) rfl (Nat.le_of_ble_eq_true rfl) rfl (by omega) dX9_makes_92 (fun _ _ z => z.elim) ?_
  rintro v92 h92 ⟨rfl, e92⟩
  rw [e92]
  simp only [Option.toList_some, List.cons_append, List.nil_append]
  refine M_ast (pc := 95) X mpc ⟨by unfold isA; decide, by decide⟩ (by show _ < 2; omega) dX9_makes_95 (fun h95 mp95 fm95 => ?_)
  have gm95 := gmc2.seq fm95
  have sd : SL tb (fu Fc 913 e (nI (bhd o))) (400 + 200 * e + (eW x).length) o := sc.os (OS_of (fun i a b => fu_i (by omega)))
  refine V_aload_n (pc := 96) X 1 dX9_makes_96 rfl ?_
  refine V_get (pc := 97) X fl_X9_49 dX9_makes_97 mp95.k (mp95.f 914) ?_
  refine V_iload_n (pc := 100) X 2 dX9_makes_100 rfl ?_
  refine V_aload_n (pc := 101) X 1 dX9_makes_101 rfl ?_
  refine V_aload_n (pc := 102) X 1 dX9_makes_102 rfl ?_
  refine V_get (pc := 103) X fl_X9_49 dX9_makes_103 mp95.k (mp95.f 914) ?_
  refine V_iload_n (pc := 106) X 2 dX9_makes_106 rfl ?_
  refine M_ald (pc := 107) X mp95 ⟨by unfold isA; decide, by decide⟩ (by show _ < 2; omega) dX9_makes_107 ?_
  rw [show fu Fc 913 e _ 914 e = Fc 914 e from fu_i (by decide), fcx 914 e (by decide), f2F 914 e (by decide) (by decide) (by decide), re7]
  refine V_iload (pc := 108) X 0 dX9_makes_108 rfl ?_
  refine V_callV (pc := 110) X clk9 (by decide) mp95.k _ (m_follows mp95 (by omega) sd (by omega) (by omega)) cw_X9_108 (Q.room (by decide) (by decide)) rfl (Nat.le_of_ble_eq_true rfl) rfl (by omega) dX9_makes_110 (fun _ _ z => z.elim) ?_
  rintro v110 h110 ⟨rfl, e110⟩
  rw [e110]
  simp only [Option.toList_some, List.cons_append, List.nil_append]
  refine M_ast (pc := 113) X mp95 ⟨by unfold isA; decide, by decide⟩ (by show _ < 2; omega) dX9_makes_113 (fun h113 mp113 fm113 => ?_)
  have gm113 := gm95.seq fm113
  have emq : ∀ c, mvq o c = mvp o c := fun c => if_neg o0
  obtain ⟨Fd, eFd⟩ : ∃ Fd, Fd = fu (fu Fc 913 e (nI (bhd o))) 914 e (nI (mvq o (eMk x))) := ⟨_, rfl⟩
  rw [← eFd] at mp113
  have fd : ∀ a c, ¬ ((a = 913 ∨ a = 914) ∧ c = e) → Fd a c = Fc a c := fun a c h1 => by rw [eFd]; exact (if_neg (fun u => h1 ⟨Or.inr u.1, u.2⟩)).trans (if_neg (fun u => h1 ⟨Or.inl u.1, u.2⟩))
  have fd3 : Fd 913 e = nI (bhd o) := by rw [eFd, fu_i (by decide), fu_s]
  have fd4 : Fd 914 e = nI (mvq o (eMk x)) := by rw [eFd, fu_s]
  have se : SL tb Fd (400 + 200 * e + (eW x).length) o := sc.os (OS_of (fun i a b => fd i _ (by omega)))
  refine V_aload_n (pc := 114) X 1 dX9_makes_114 rfl ?_
  refine V_iload_n (pc := 115) X 2 dX9_makes_115 rfl ?_
  refine V_iload (pc := 116) X 0 dX9_makes_116 rfl ?_
  refine V_callV (pc := 118) X clk9 (by decide) mp113.k _ (m_movesKept mp113 (N := (eK x).length) (pl := pl) he (by omega) se (by omega) (by rw [fd 923 e (by omega), fcx 923 e (by decide), f2F 923 e (by decide) (by decide) (by decide), re10]) (by omega) (fun k hk => by
      obtain ⟨kk, hkk⟩ : ∃ kk, (eK x)[k]? = some kk := ⟨_, List.getElem?_eq_getElem hk⟩
      obtain ⟨p1, p2, p3⟩ := hpl k kk hkk
      exact ⟨by rw [fd 920 _ (by omega), fcx 920 _ (by decide), f2F 920 _ (by decide) (by decide) (by decide)]; exact p1, by omega⟩)) cw_X9_134 (Q.room (by decide) (by decide)) rfl (Nat.le_of_ble_eq_true rfl) rfl (by omega) dX9_makes_118 (fun _ _ z => z.elim) ?_
  rintro v118 h118 ⟨rfl, Fk, mpk, gmk, kk1, kk2⟩
  simp only [Option.toList_none, List.nil_append]
  have gmk2 := gm113.seq gmk
  have fk : ∀ a c, a ≠ 920 → ¬ ((a = 913 ∨ a = 914) ∧ c = e) → ¬ (906 ≤ a ∧ a ≤ 909) → Fk a c = F2 a c := fun a c h1 h2 h3 => (kk1 a c h1).trans ((fd a c h2).trans (fcx a c h3))
  have fkF : ∀ a c, a ≠ 920 → ¬ ((a = 913 ∨ a = 914) ∧ c = e) → ¬ (906 ≤ a ∧ a ≤ 909) → ¬ (901 ≤ a ∧ a ≤ 905) → a ≠ 911 → a ≠ 926 → Fk a c = F a c := fun a c h1 h2 h3 h4 h5 h6 => (fk a c h1 h2 h3).trans (f2F a c h4 h5 h6)
  have osk : ∀ j, j ≠ 400 + 200 * e + (eW x).length → OS Fk j = OS F j := fun j hj => (OS_of (fun i a b => (fk i j (by omega) (by omega) (by omega)).trans (f2k i j (by omega) (by omega)))).trans (f1o j hj)
  have sk : SL tb Fk (400 + 200 * e + (eW x).length) o := s2.os (OS_of (fun i a b => fk i _ (by omega) (by omega) (by omega)))
  have txk : TM tb Fk e (apO o (eX x)) := tc.same ((kk1 909 e (by decide)).trans (fd 909 e (by omega))) (fun a c h1 h2 _ _ => (kk1 a c (by omega)).trans (fd a c (by omega)))
  have WWk : SLs tb Fk (400 + 200 * e) (eW x ++ [o]) := fun j a ha => by
    rcases Nat.lt_or_ge j (eW x).length with u | u
    · rw [List.getElem?_append_left u] at ha
      exact (re4 j a ha).os (osk _ (by omega))
    · rw [List.getElem?_append_right u] at ha
      have ej : j - (eW x).length = 0 := by
        have := (List.getElem?_eq_some_iff.mp ha).1
        simp only [List.length_cons, List.length_nil] at this
        omega
      rw [ej] at ha
      have ea : o = a := by simpa using ha
      rw [← ea, show 400 + 200 * e + j = 400 + 200 * e + (eW x).length by omega]
      exact sk
  have KMk : ∀ (j : Nat) (k : KO), ((eK x).map (mvk o))[j]? = some k → KM tb Fk (200 * e + j) (apO o (eX x)).length k := fun j k hj => by
    rw [List.getElem?_map] at hj
    obtain ⟨k0, hk0, ek⟩ := Option.map_eq_some_iff.mp hj
    have hjl := (List.getElem?_eq_some_iff.mp hk0).1
    obtain ⟨q1, -, q3, q4⟩ := re11 j k0 hk0
    obtain ⟨p1, p2, p3⟩ := hpl j k0 hk0
    have ek1 : k.1 = k0.1 := by rw [← ek]; unfold mvk; split <;> rfl
    have ek2 : k.2.1 = k0.2.1 := by rw [← ek]; unfold mvk; split <;> rfl
    refine ⟨?_, ⟨mvp o (pl j), ?_, mvp_le v o0 p2, fun u => ?_⟩, ?_, fun u => ?_⟩
    · rw [fkF 919 _ (by decide) (by omega) (by decide) (by decide) (by decide) (by decide), ek1]; exact q1
    · rw [kk2, if_pos (by omega), show 200 * e + j - 200 * e = j by omega, emq]
    · rw [← ek, p3 (by omega)]
      unfold mvk
      rw [if_pos (by omega)]
    · rw [fkF 921 _ (by decide) (by omega) (by decide) (by decide) (by decide) (by decide), ek2]; exact q3
    · rw [fkF 922 _ (by decide) (by omega) (by decide) (by decide) (by decide) (by decide), ek2]; exact q4 (by omega)
  have hk1m : ∀ a c, ¬ rgM e a c → Fk a c = F a c := fun a c hac => by
    unfold rgM rgE at hac
    by_cases h920 : a = 920
    · subst h920
      rw [kk2, if_neg (by omega), fd 920 c (by omega), fcx 920 c (by decide)]
      exact f2F 920 c (by decide) (by decide) (by decide)
    · rw [kk1 a c h920, fd a c (by omega)]
      by_cases h6 : 906 ≤ a ∧ a ≤ 908
      · rw [kc.2.1 a c h6.1 h6.2 (by omega)]
        exact f2F a c (by omega) (by omega) (by omega)
      · by_cases h9 : a = 909
        · subst h9
          rw [kc.2.2 c (by omega)]
          exact f2F 909 c (by decide) (by decide) (by decide)
        · rw [kc.1 a c (by omega), f2k a c (by omega) (by omega)]
          by_cases h5 : 901 ≤ a ∧ a ≤ 905
          · have eo := f1o c (by omega)
            unfold OS at eo
            have e1 := congrArg (fun p => p.1) eo
            have e2 := congrArg (fun p => p.2.1) eo
            have e3 := congrArg (fun p => p.2.2.1) eo
            have e4 := congrArg (fun p => p.2.2.2.1) eo
            have e5 := congrArg (fun p => p.2.2.2.2) eo
            rcases (show a = 901 ∨ a = 902 ∨ a = 903 ∨ a = 904 ∨ a = 905 by omega) with rfl | rfl | rfl | rfl | rfl
            · exact e1
            · exact e2
            · exact e3
            · exact e4
            · exact e5
          · exact f1k a c h5
  refine V_iload (pc := 121) X 6 dX9_makes_121 rfl ?_
  refine V_if_eq (pc := 123) X 189 dX9_makes_123 (by decide) (fun c123 => ?_) (fun c123 => ?_)
  · have ef : f = false := by
      cases f with
      | false => rfl
      | true => exact absurd c123 (by decide)
    obtain ⟨F9, eF9⟩ : ∃ F9, F9 = Fk := ⟨_, rfl⟩
    have mp9 := mpk
    have gm9 := gmk2
    rw [← eF9] at mp9
    have k9 : KE F F9 (rgM e) := by rw [eF9]; exact hk1m
    have m9 : F9 926 0 = nI (M + 1) := by rw [eF9, fk 926 0 (by decide) (by omega) (by decide), f2m]
    have r9 : RE tb F9 e (mk9 x o f) := by
      rw [eF9, ef]
      refine ⟨?_, re2.os (fun k h1 h2 => osk k (by omega)), ?_, WWk, txk, ?_, ?_, ?_, ?_, ?_, KMk⟩
      · rw [fkF 910 e (by decide) (by omega) (by decide) (by decide) (by decide) (by decide)]; exact re1
      · rw [fk 911 e (by decide) (by omega) (by decide), f2w]; show _ = nI (eW x ++ [o]).length; rw [List.length_append]; rfl
      · rw [kk1 913 e (by decide), fd3]; rfl
      · rw [kk1 914 e (by decide), fd4, emq]; rfl
      · rw [fkF 912 e (by decide) (by omega) (by decide) (by decide) (by decide) (by decide)]; exact re8
      · rw [fkF 917 e (by decide) (by omega) (by decide) (by decide) (by decide) (by decide)]; exact re9
      · rw [fkF 923 e (by decide) (by omega) (by decide) (by decide) (by decide) (by decide), re10]; show nI _ = nI ((eK x).map (mvk o)).length; rw [List.length_map]
    refine V_aload_n (pc := 189) X 1 dX9_makes_189 rfl ?_
    refine V_get (pc := 190) X fl_X9_58 dX9_makes_190 mp9.k (mp9.f 917) ?_
    refine V_iload_n (pc := 193) X 2 dX9_makes_193 rfl ?_
    refine M_zld (pc := 194) X mp9 (by decide) (by omega) dX9_makes_194 ?_
    rw [show F9 917 e = if eS x = [] then 0 else 1 from r9.2.2.2.2.2.2.2.2.1]
    refine V_if_ne (pc := 195) X 204 dX9_makes_195 (by decide) (fun c195 => ?_) (fun c195 => ?_)
    · have es : eS x ≠ [] := fun y => by rw [if_pos y] at c195; exact absurd rfl c195
      refine V_vret (pc := 204) X Q rfl dX9_makes_204 ?_
      first
      | (refine ⟨rfl, F9, mp9, gm9, ?_, m9, fun _ => k9, fun u => absurd u es⟩
         have e1 : mkK x o f = mk9 x o f := by
           unfold mkK mk9 mak eP
           dsimp only
           rw [if_neg (show ¬ x.2.1 = [] from es), if_neg (show ¬ x.2.1 = [] from es)]
           rfl
         rw [e1]; exact r9)
      | (have e1 : mkK x o f = (apO o (eX x), [o], [], if f then (eK x).map (mvk o) ++ [kof o] else (eK x).map (mvk o), bhd o, mvp o (eMk x), eR x) := by
           unfold mkK mak eP
           dsimp only
           rw [if_pos (show x.2.1 = [] from es), if_pos (show x.2.1 = [] from es), show x.2.2.1 = [] from ew]
           rfl
         obtain ⟨b1, b2, b3, b4, b5, b6, b7, b8, b9, b10, b11⟩ := r9
         have ks : ∀ x y, ¬ (901 ≤ x ∧ x ≤ 905) → ¬ ((x = 910 ∨ x = 911 ∨ (915 ≤ x ∧ x ≤ 918)) ∧ y = e) → Fs x y = F9 x y := fun x y h1 h2 => a10 x y (fun u => u.elim (fun u => h1 u.1) h2)
         refine ⟨rfl, Fs, mps, gm9.seq gms, ?_, (ks 926 0 (by decide) (by omega)).trans m9, fun u => absurd es u, fun _ => ⟨fun a b hab => ?_, a8, a5, ?_, a2⟩⟩
         · rw [e1]
           refine ⟨a4, a1, a6, fun j a ha => by simp [eW] at ha, b5.same (ks 909 e (by decide) (by omega)) (fun a c h1 h2 _ _ => ks a c (by omega) (by omega)), (ks 913 e (by decide) (by omega)).trans b6, (ks 914 e (by decide) (by omega)).trans b7, (ks 912 e (by decide) (by omega)).trans b8, ?_, (ks 923 e (by decide) (by omega)).trans b10, fun j k hj => ?_⟩
           · rw [a7]; rfl
           · have := b11 j k hj
             unfold KM at this ⊢
             rw [ks 919 _ (by decide) (by omega), ks 920 _ (by decide) (by omega), ks 921 _ (by decide) (by omega), ks 922 _ (by decide) (by omega)]
             exact this
         · have hab1 : ¬ rgM e a b := fun u => hab (Or.inl u)
           have hab2 : ¬ rgU e a b := fun u => hab (Or.inr u)
           rw [← k9 a b hab1]
           refine a10 a b (fun u => ?_)
           unfold rgM rgE at hab1
           unfold rgU at hab2
           omega
         · rw [a9]; exact b8)
    · have es : eS x = [] := by
        by_cases y : eS x = []
        · exact y
        · rw [if_neg y] at c195; exact absurd c195 (by decide)
      have ew : eW x = [] := hid es
      have w9 : SLs tb F9 (400 + 200 * e) [o] := by have := r9.2.2.2.1; rwa [show eW (mk9 x o f) = [o] by show eW x ++ [o] = [o]; rw [ew]; rfl] at this
      have n9w : F9 911 e = nI [o].length := by have := r9.2.2.1; rwa [show eW (mk9 x o f) = [o] by show eW x ++ [o] = [o]; rw [ew]; rfl] at this
      refine V_aload_n (pc := 198) X 1 dX9_makes_198 rfl ?_
      refine V_iload_n (pc := 199) X 2 dX9_makes_199 rfl ?_
      refine V_iconst (pc := 200) (v := 1) X dX9_makes_200 (by decide) ?_
      show V _ _ _ _ _ _ (Value.int (nI 1) :: _)
      refine V_callV (pc := 201) X clk9 (by decide) mp9.k _ (m_sends (n0 := 1) (W := [o]) mp9 he w9 n9w (show 1 ≤ 200 by decide) (Nat.le_refl 1)) cw_X9_137 (Q.room (by decide) (by decide)) rfl (Nat.le_of_ble_eq_true rfl) rfl (by omega) dX9_makes_201 (fun _ _ z => z.elim) ?_
      rintro v201 h201 ⟨rfl, Fs, mps, gms, a1, a2, a3, a4, a5, a6, a7, a8, a9, a10⟩
      simp only [Option.toList_none, List.nil_append]
      refine V_vret (pc := 204) X Q rfl dX9_makes_204 ?_
      first
      | (refine ⟨rfl, F9, mp9, gm9, ?_, m9, fun _ => k9, fun u => absurd u es⟩
         have e1 : mkK x o f = mk9 x o f := by
           unfold mkK mk9 mak eP
           dsimp only
           rw [if_neg (show ¬ x.2.1 = [] from es), if_neg (show ¬ x.2.1 = [] from es)]
           rfl
         rw [e1]; exact r9)
      | (have e1 : mkK x o f = (apO o (eX x), [o], [], if f then (eK x).map (mvk o) ++ [kof o] else (eK x).map (mvk o), bhd o, mvp o (eMk x), eR x) := by
           unfold mkK mak eP
           dsimp only
           rw [if_pos (show x.2.1 = [] from es), if_pos (show x.2.1 = [] from es), show x.2.2.1 = [] from ew]
           rfl
         obtain ⟨b1, b2, b3, b4, b5, b6, b7, b8, b9, b10, b11⟩ := r9
         have ks : ∀ x y, ¬ (901 ≤ x ∧ x ≤ 905) → ¬ ((x = 910 ∨ x = 911 ∨ (915 ≤ x ∧ x ≤ 918)) ∧ y = e) → Fs x y = F9 x y := fun x y h1 h2 => a10 x y (fun u => u.elim (fun u => h1 u.1) h2)
         refine ⟨rfl, Fs, mps, gm9.seq gms, ?_, (ks 926 0 (by decide) (by omega)).trans m9, fun u => absurd es u, fun _ => ⟨fun a b hab => ?_, a8, a5, ?_, a2⟩⟩
         · rw [e1]
           refine ⟨a4, a1, a6, fun j a ha => by simp [eW] at ha, b5.same (ks 909 e (by decide) (by omega)) (fun a c h1 h2 _ _ => ks a c (by omega) (by omega)), (ks 913 e (by decide) (by omega)).trans b6, (ks 914 e (by decide) (by omega)).trans b7, (ks 912 e (by decide) (by omega)).trans b8, ?_, (ks 923 e (by decide) (by omega)).trans b10, fun j k hj => ?_⟩
           · rw [a7]; rfl
           · have := b11 j k hj
             unfold KM at this ⊢
             rw [ks 919 _ (by decide) (by omega), ks 920 _ (by decide) (by omega), ks 921 _ (by decide) (by omega), ks 922 _ (by decide) (by omega)]
             exact this
         · have hab1 : ¬ rgM e a b := fun u => hab (Or.inl u)
           have hab2 : ¬ rgU e a b := fun u => hab (Or.inr u)
           rw [← k9 a b hab1]
           refine a10 a b (fun u => ?_)
           unfold rgM rgE at hab1
           unfold rgU at hab2
           omega
         · rw [a9]; exact b8)
  · have ef : f = true := by
      cases f with
      | true => rfl
      | false => exact absurd rfl c123
    refine V_sipush (pc := 126) (v := 200) X dX9_makes_126 (by decide) ?_
    show V _ _ _ _ _ _ (Value.int (nI 200) :: _)
    refine V_iload_n (pc := 129) X 2 dX9_makes_129 rfl ?_
    refine V_imul (pc := 130) X dX9_makes_130 ?_
    rw [pk_mul]
    refine V_aload_n (pc := 131) X 1 dX9_makes_131 rfl ?_
    refine V_get (pc := 132) X fl_X9_77 dX9_makes_132 mpk.k (mpk.f 923) ?_
    refine V_iload_n (pc := 135) X 2 dX9_makes_135 rfl ?_
    refine M_ald (pc := 136) X mpk ⟨by unfold isA; decide, by decide⟩ (by show _ < 2; omega) dX9_makes_136 ?_
    rw [fkF 923 e (by decide) (by omega) (by decide) (by decide) (by decide) (by decide), re10]
    refine V_iadd (pc := 137) X dX9_makes_137 ?_
    rw [nI_add]
    refine V_istore (pc := 138) X [(7, .int _), (6, .int _), (0, .ref _), (1, .int _), (2, .int _), (3, .int _), (4, .int _), (5, .int _)] dX9_makes_138 (by decide) rfl ?_
    refine V_aload_n (pc := 140) X 2 dX9_makes_140 rfl ?_
    refine V_get (pc := 141) X fl_X9_65 dX9_makes_141 mpk.k (mpk.f 919) ?_
    refine V_iload (pc := 144) X 0 dX9_makes_144 rfl ?_
    refine V_iload_n (pc := 146) X 4 dX9_makes_146 rfl ?_
    refine M_ast (pc := 147) X mpk ⟨by unfold isA; decide, by decide⟩ (by show _ < 400; omega) dX9_makes_147 (fun h147 mp147 fm147 => ?_)
    have gm147 := gmk2.seq fm147
    refine V_aload_n (pc := 148) X 2 dX9_makes_148 rfl ?_
    refine V_get (pc := 149) X fl_X9_68 dX9_makes_149 mp147.k (mp147.f 920) ?_
    refine V_iload (pc := 152) X 0 dX9_makes_152 rfl ?_
    refine V_iload_n (pc := 154) X 5 dX9_makes_154 rfl ?_
    refine M_ast (pc := 155) X mp147 ⟨by unfold isA; decide, by decide⟩ (by show _ < 400; omega) dX9_makes_155 (fun h155 mp155 fm155 => ?_)
    have gm155 := gm147.seq fm155
    refine V_aload_n (pc := 156) X 2 dX9_makes_156 rfl ?_
    refine V_get (pc := 157) X fl_X9_71 dX9_makes_157 mp155.k (mp155.f 921) ?_
    refine V_iload (pc := 160) X 0 dX9_makes_160 rfl ?_
    refine V_iload (pc := 162) X 6 dX9_makes_162 rfl ?_
    refine M_ast (pc := 164) X mp155 ⟨by unfold isA; decide, by decide⟩ (by show _ < 400; omega) dX9_makes_164 (fun h164 mp164 fm164 => ?_)
    have gm164 := gm155.seq fm164
    refine V_aload_n (pc := 165) X 2 dX9_makes_165 rfl ?_
    refine V_get (pc := 166) X fl_X9_74 dX9_makes_166 mp164.k (mp164.f 922) ?_
    refine V_iload (pc := 169) X 0 dX9_makes_169 rfl ?_
    refine V_aload_n (pc := 171) X 2 dX9_makes_171 rfl ?_
    refine V_get (pc := 172) X fl_X9_19 dX9_makes_172 mp164.k (mp164.f 904) ?_
    refine V_iload (pc := 175) X 1 dX9_makes_175 rfl ?_
    refine M_ald (pc := 177) X mp164 ⟨by unfold isA; decide, by decide⟩ (by show _ < 1401; omega) dX9_makes_177 ?_
    rw [show (fu (fu (fu Fk 919 _ _) 920 _ _) 921 _ _) 904 (400 + 200 * e + (eW x).length) = Fk 904 (400 + 200 * e + (eW x).length) from (fu_i (by decide)).trans ((fu_i (by decide)).trans (fu_i (by decide)))]
    refine M_ast (pc := 178) X mp164 ⟨by unfold isA; decide, by decide⟩ (by show _ < 400; omega) dX9_makes_178 (fun h178 mp178 fm178 => ?_)
    have gm178 := gm164.seq fm178
    refine V_aload_n (pc := 179) X 2 dX9_makes_179 rfl ?_
    refine V_get (pc := 180) X fl_X9_77 dX9_makes_180 mp178.k (mp178.f 923) ?_
    refine V_iload_n (pc := 183) X 3 dX9_makes_183 rfl ?_
    refine V_dup2 (pc := 184) X dX9_makes_184 rfl rfl ?_
    refine M_ald (pc := 185) X mp178 ⟨by unfold isA; decide, by decide⟩ (by show _ < 2; omega) dX9_makes_185 ?_
    rw [show (fu (fu (fu (fu Fk 919 _ _) 920 _ _) 921 _ _) 922 _ _) 923 e = Fk 923 e from (fu_i (by decide)).trans ((fu_i (by decide)).trans ((fu_i (by decide)).trans (fu_i (by decide)))), fkF 923 e (by decide) (by omega) (by decide) (by decide) (by decide) (by decide), re10]
    refine V_iconst (pc := 186) (v := 1) X dX9_makes_186 (by decide) ?_
    show V _ _ _ _ _ _ (Value.int (nI 1) :: _)
    refine V_iadd (pc := 187) X dX9_makes_187 ?_
    rw [nI_add]
    refine M_ast (pc := 188) X mp178 ⟨by unfold isA; decide, by decide⟩ (by show _ < 2; omega) dX9_makes_188 (fun h188 mp188 fm188 => ?_)
    have gm188 := gm178.seq fm188
    obtain ⟨F9, eF9⟩ : ∃ F9, F9 = fu (fu (fu (fu (fu Fk 919 (200 * e + (eK x).length) (nI o.1)) 920 (200 * e + (eK x).length) (nI o.2.1)) 921 (200 * e + (eK x).length) (nI (tb o.2.2.1).1)) 922 (200 * e + (eK x).length) (Fk 904 (400 + 200 * e + (eW x).length))) 923 e (nI ((eK x).length + 1)) := ⟨_, rfl⟩
    have mp9 := mp188
    have gm9 := gm188
    rw [← eF9] at mp9
    have n9 : ∀ a c, ¬ (919 ≤ a ∧ a ≤ 922 ∧ c = 200 * e + (eK x).length) → ¬ (a = 923 ∧ c = e) → F9 a c = Fk a c := fun a c h1 h2 => by
      rw [eF9]
      exact (if_neg h2).trans ((if_neg (by omega)).trans ((if_neg (by omega)).trans ((if_neg (by omega)).trans (if_neg (by omega)))))
    have k9 : KE F F9 (rgM e) := fun a c hac => (n9 a c (fun u => hac (by unfold rgM rgE; omega)) (fun u => hac (by unfold rgM rgE; omega))).trans (hk1m a c hac)
    have m9 : F9 926 0 = nI (M + 1) := by rw [n9 926 0 (by omega) (by omega), fk 926 0 (by decide) (by omega) (by decide), f2m]
    have os9 : ∀ j, OS F9 j = OS Fk j := fun j => OS_of (fun i a b => n9 i j (by omega) (by omega))
    have r9 : RE tb F9 e (mk9 x o f) := by
      rw [ef]
      refine ⟨?_, re2.os (fun k h1 h2 => (os9 k).trans (osk k (by omega))), ?_, WWk.os (fun k _ _ => os9 k), txk.same (n9 909 e (by omega) (by omega)) (fun a c h1 h2 _ _ => n9 a c (by omega) (by omega)), ?_, ?_, ?_, ?_, ?_, fun j k hj => ?_⟩
      · rw [n9 910 e (by omega) (by omega), fkF 910 e (by decide) (by omega) (by decide) (by decide) (by decide) (by decide)]; exact re1
      · rw [n9 911 e (by omega) (by omega), fk 911 e (by decide) (by omega) (by decide), f2w]; show _ = nI (eW x ++ [o]).length; rw [List.length_append]; rfl
      · rw [n9 913 e (by omega) (by omega), kk1 913 e (by decide), fd3]; rfl
      · rw [n9 914 e (by omega) (by omega), kk1 914 e (by decide), fd4, emq]; rfl
      · rw [n9 912 e (by omega) (by omega), fkF 912 e (by decide) (by omega) (by decide) (by decide) (by decide) (by decide)]; exact re8
      · rw [n9 917 e (by omega) (by omega), fkF 917 e (by decide) (by omega) (by decide) (by decide) (by decide) (by decide)]; exact re9
      · rw [eF9, fu_s]; show _ = nI ((eK x).map (mvk o) ++ [kof o]).length; rw [List.length_append, List.length_map]; rfl
      · have hj : ((eK x).map (mvk o) ++ [kof o])[j]? = some k := hj
        rcases Nat.lt_or_ge j (eK x).length with u | u
        · rw [List.getElem?_append_left (by rw [List.length_map]; exact u)] at hj
          have := KMk j k hj
          unfold KM at this ⊢
          rw [n9 919 _ (by omega) (by omega), n9 920 _ (by omega) (by omega), n9 921 _ (by omega) (by omega), n9 922 _ (by omega) (by omega)]
          exact this
        · rw [List.getElem?_append_right (by rw [List.length_map]; exact u), List.length_map] at hj
          have ej : j - (eK x).length = 0 := by
            have := (List.getElem?_eq_some_iff.mp hj).1
            simp only [List.length_cons, List.length_nil] at this
            omega
          rw [ej] at hj
          have ek : kof o = k := by simpa using hj
          rw [← ek, show 200 * e + j = 200 * e + (eK x).length by omega, eF9]
          have hpl2 : o.2.1 ≤ (apO o (eX x)).length := by
            rcases v with ⟨a, -⟩ | ⟨a, b⟩ | ⟨a, b⟩
            · exact absurd a o0
            · rw [al_1 a b]; omega
            · rw [al_2 a b]; omega
          refine ⟨?_, ⟨o.2.1, ?_, hpl2, fun _ => rfl⟩, ?_, fun w => ?_⟩
          · rw [fu_i (by decide), fu_i (by decide), fu_i (by decide), fu_i (by decide), fu_s]
            unfold kof
            dsimp only
            by_cases u1 : o.1 = 1
            · rw [if_pos u1, if_pos rfl, u1]
            · rw [if_neg u1, if_neg (by decide), show o.1 = 2 by omega]
          · rw [fu_i (by decide), fu_i (by decide), fu_i (by decide), fu_s]
          · rw [fu_i (by decide), fu_i (by decide), fu_s]; rfl
          · rw [fu_i (by decide), fu_s]
            have u1 : o.1 = 1 := by
              unfold kof at w
              dsimp only at w
              by_cases u1 : o.1 = 1
              · exact u1
              · rw [if_neg u1] at w; exact absurd w (by decide)
            exact (sk.2.2.2.1 u1).2
    refine V_aload_n (pc := 189) X 2 dX9_makes_189 rfl ?_
    refine V_get (pc := 190) X fl_X9_58 dX9_makes_190 mp9.k (mp9.f 917) ?_
    refine V_iload_n (pc := 193) X 3 dX9_makes_193 rfl ?_
    refine M_zld (pc := 194) X mp9 (by decide) (by omega) dX9_makes_194 ?_
    rw [show F9 917 e = if eS x = [] then 0 else 1 from r9.2.2.2.2.2.2.2.2.1]
    refine V_if_ne (pc := 195) X 204 dX9_makes_195 (by decide) (fun c195 => ?_) (fun c195 => ?_)
    · have es : eS x ≠ [] := fun y => by rw [if_pos y] at c195; exact absurd rfl c195
      refine V_vret (pc := 204) X Q rfl dX9_makes_204 ?_
      first
      | (refine ⟨rfl, F9, mp9, gm9, ?_, m9, fun _ => k9, fun u => absurd u es⟩
         have e1 : mkK x o f = mk9 x o f := by
           unfold mkK mk9 mak eP
           dsimp only
           rw [if_neg (show ¬ x.2.1 = [] from es), if_neg (show ¬ x.2.1 = [] from es)]
           rfl
         rw [e1]; exact r9)
      | (have e1 : mkK x o f = (apO o (eX x), [o], [], if f then (eK x).map (mvk o) ++ [kof o] else (eK x).map (mvk o), bhd o, mvp o (eMk x), eR x) := by
           unfold mkK mak eP
           dsimp only
           rw [if_pos (show x.2.1 = [] from es), if_pos (show x.2.1 = [] from es), show x.2.2.1 = [] from ew]
           rfl
         obtain ⟨b1, b2, b3, b4, b5, b6, b7, b8, b9, b10, b11⟩ := r9
         have ks : ∀ x y, ¬ (901 ≤ x ∧ x ≤ 905) → ¬ ((x = 910 ∨ x = 911 ∨ (915 ≤ x ∧ x ≤ 918)) ∧ y = e) → Fs x y = F9 x y := fun x y h1 h2 => a10 x y (fun u => u.elim (fun u => h1 u.1) h2)
         refine ⟨rfl, Fs, mps, gm9.seq gms, ?_, (ks 926 0 (by decide) (by omega)).trans m9, fun u => absurd es u, fun _ => ⟨fun a b hab => ?_, a8, a5, ?_, a2⟩⟩
         · rw [e1]
           refine ⟨a4, a1, a6, fun j a ha => by simp [eW] at ha, b5.same (ks 909 e (by decide) (by omega)) (fun a c h1 h2 _ _ => ks a c (by omega) (by omega)), (ks 913 e (by decide) (by omega)).trans b6, (ks 914 e (by decide) (by omega)).trans b7, (ks 912 e (by decide) (by omega)).trans b8, ?_, (ks 923 e (by decide) (by omega)).trans b10, fun j k hj => ?_⟩
           · rw [a7]; rfl
           · have := b11 j k hj
             unfold KM at this ⊢
             rw [ks 919 _ (by decide) (by omega), ks 920 _ (by decide) (by omega), ks 921 _ (by decide) (by omega), ks 922 _ (by decide) (by omega)]
             exact this
         · have hab1 : ¬ rgM e a b := fun u => hab (Or.inl u)
           have hab2 : ¬ rgU e a b := fun u => hab (Or.inr u)
           rw [← k9 a b hab1]
           refine a10 a b (fun u => ?_)
           unfold rgM rgE at hab1
           unfold rgU at hab2
           omega
         · rw [a9]; exact b8)
    · have es : eS x = [] := by
        by_cases y : eS x = []
        · exact y
        · rw [if_neg y] at c195; exact absurd c195 (by decide)
      have ew : eW x = [] := hid es
      have w9 : SLs tb F9 (400 + 200 * e) [o] := by have := r9.2.2.2.1; rwa [show eW (mk9 x o f) = [o] by show eW x ++ [o] = [o]; rw [ew]; rfl] at this
      have n9w : F9 911 e = nI [o].length := by have := r9.2.2.1; rwa [show eW (mk9 x o f) = [o] by show eW x ++ [o] = [o]; rw [ew]; rfl] at this
      refine V_aload_n (pc := 198) X 2 dX9_makes_198 rfl ?_
      refine V_iload_n (pc := 199) X 3 dX9_makes_199 rfl ?_
      refine V_iconst (pc := 200) (v := 1) X dX9_makes_200 (by decide) ?_
      show V _ _ _ _ _ _ (Value.int (nI 1) :: _)
      refine V_callV (pc := 201) X clk9 (by decide) mp9.k _ (m_sends (n0 := 1) (W := [o]) mp9 he w9 n9w (show 1 ≤ 200 by decide) (Nat.le_refl 1)) cw_X9_137 (Q.room (by decide) (by decide)) rfl (Nat.le_of_ble_eq_true rfl) rfl (by omega) dX9_makes_201 (fun _ _ z => z.elim) ?_
      rintro v201 h201 ⟨rfl, Fs, mps, gms, a1, a2, a3, a4, a5, a6, a7, a8, a9, a10⟩
      simp only [Option.toList_none, List.nil_append]
      refine V_vret (pc := 204) X Q rfl dX9_makes_204 ?_
      first
      | (refine ⟨rfl, F9, mp9, gm9, ?_, m9, fun _ => k9, fun u => absurd u es⟩
         have e1 : mkK x o f = mk9 x o f := by
           unfold mkK mk9 mak eP
           dsimp only
           rw [if_neg (show ¬ x.2.1 = [] from es), if_neg (show ¬ x.2.1 = [] from es)]
           rfl
         rw [e1]; exact r9)
      | (have e1 : mkK x o f = (apO o (eX x), [o], [], if f then (eK x).map (mvk o) ++ [kof o] else (eK x).map (mvk o), bhd o, mvp o (eMk x), eR x) := by
           unfold mkK mak eP
           dsimp only
           rw [if_pos (show x.2.1 = [] from es), if_pos (show x.2.1 = [] from es), show x.2.2.1 = [] from ew]
           rfl
         obtain ⟨b1, b2, b3, b4, b5, b6, b7, b8, b9, b10, b11⟩ := r9
         have ks : ∀ x y, ¬ (901 ≤ x ∧ x ≤ 905) → ¬ ((x = 910 ∨ x = 911 ∨ (915 ≤ x ∧ x ≤ 918)) ∧ y = e) → Fs x y = F9 x y := fun x y h1 h2 => a10 x y (fun u => u.elim (fun u => h1 u.1) h2)
         refine ⟨rfl, Fs, mps, gm9.seq gms, ?_, (ks 926 0 (by decide) (by omega)).trans m9, fun u => absurd es u, fun _ => ⟨fun a b hab => ?_, a8, a5, ?_, a2⟩⟩
         · rw [e1]
           refine ⟨a4, a1, a6, fun j a ha => by simp [eW] at ha, b5.same (ks 909 e (by decide) (by omega)) (fun a c h1 h2 _ _ => ks a c (by omega) (by omega)), (ks 913 e (by decide) (by omega)).trans b6, (ks 914 e (by decide) (by omega)).trans b7, (ks 912 e (by decide) (by omega)).trans b8, ?_, (ks 923 e (by decide) (by omega)).trans b10, fun j k hj => ?_⟩
           · rw [a7]; rfl
           · have := b11 j k hj
             unfold KM at this ⊢
             rw [ks 919 _ (by decide) (by omega), ks 920 _ (by decide) (by omega), ks 921 _ (by decide) (by omega), ks 922 _ (by decide) (by omega)]
             exact this
         · have hab1 : ¬ rgM e a b := fun u => hab (Or.inl u)
           have hab2 : ¬ rgU e a b := fun u => hab (Or.inr u)
           rw [← k9 a b hab1]
           refine a10 a b (fun u => ?_)
           unfold rgM rgE at hab1
           unfold rgU at hab2
           omega
         · rw [a9]; exact b8)
