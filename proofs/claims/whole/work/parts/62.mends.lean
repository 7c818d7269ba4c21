/-! THE MODEL: AN END -/
def KM (tb : Nat → Nat × Nat) (F : MS') (i n : Nat) (k : KO) : Prop := F 919 i = nI (if k.1 = 1 then 1 else 2) ∧ (∃ pl, F 920 i = nI pl ∧ pl ≤ n ∧ (k.1 = 0 → pl = k.2.2)) ∧ F 921 i = nI (tb k.2.1).1 ∧ (k.1 = 1 → F 922 i = nI k.2.1)
def RE (tb : Nat → Nat × Nat) (F : MS') (e : Nat) (x : EQ) : Prop := F 910 e = nI (eS x).length ∧ SLs tb F (200 * e) (eS x) ∧ F 911 e = nI (eW x).length ∧ SLs tb F (400 + 200 * e) (eW x) ∧ TM tb F e (eX x) ∧ F 913 e = nI (eC x) ∧ F 914 e = nI (eMk x) ∧ F 912 e = nI (eR x) ∧ (F 917 e = if eS x = [] then 0 else 1) ∧ F 923 e = nI (eK x).length ∧ ∀ (j : Nat) (k : KO), (eK x)[j]? = some k → KM tb F (200 * e + j) (eX x).length k
/-- the places of end e: sent, waiting, text, numbers, kept -/
def rgE (e x y : Nat) : Prop := (901 ≤ x ∧ x ≤ 905 ∧ ((200 * e ≤ y ∧ y < 200 * e + 200) ∨ (400 + 200 * e ≤ y ∧ y < 600 + 200 * e) ∨ y = 1400)) ∨ (906 ≤ x ∧ x ≤ 908 ∧ 201 * e ≤ y ∧ y < 201 * e + 201) ∨ (((909 ≤ x ∧ x ≤ 914) ∨ x = 917) ∧ y = e) ∨ (919 ≤ x ∧ x ≤ 922 ∧ 200 * e ≤ y ∧ y < 200 * e + 200) ∨ (x = 923 ∧ y = e)
def rgU (e x y : Nat) : Prop := (901 ≤ x ∧ x ≤ 905 ∧ 800 + 200 * e ≤ y ∧ y < 1000 + 200 * e) ∨ ((x = 915 ∨ x = 916 ∨ x = 918) ∧ y = e)
def KE (F F' : MS') (S : Nat → Nat → Prop) : Prop := ∀ x y, ¬ S x y → F' x y = F x y
theorem KE.refl (F : MS') (S : Nat → Nat → Prop) : KE F F S := fun _ _ _ => rfl
theorem KE.seq {F F' F'' : MS'} {S : Nat → Nat → Prop} (a : KE F F' S) (b : KE F' F'' S) : KE F F'' S := fun x y h => (b x y h).trans (a x y h)
theorem KE.os {F F' : MS'} {S : Nat → Nat → Prop} (a : KE F F' S) {k : Nat} (h : ∀ i, 901 ≤ i → i ≤ 905 → ¬ S i k) : OS F' k = OS F k := OS_of (fun i x y => a i k (h i x y))
theorem RE.ke {tb : Nat → Nat × Nat} {F F' : MS'} {S : Nat → Nat → Prop} {e : Nat} {x : EQ} (z : RE tb F e x) (h : KE F F' S) (hs : ∀ a b, rgE e a b → b ≠ 1400 → ¬ S a b) (he : e ≤ 1) (hS : (eS x).length ≤ 200) (hW : (eW x).length ≤ 200) (hK : (eK x).length ≤ 200) : RE tb F' e x := by
  obtain ⟨z1, z2, z3, z4, z5, z6, z7, z8, z9, z10, z11⟩ := z
  have n : ∀ a, ((909 ≤ a ∧ a ≤ 914) ∨ a = 917 ∨ a = 923) → F' a e = F a e := fun a ha => h a e (hs a e (by unfold rgE; omega) (by omega))
  refine ⟨(n 910 (by decide)).trans z1, z2.os (fun k h1 h2 => h.os (fun i a b => hs i k (by unfold rgE; omega) (by omega))), (n 911 (by decide)).trans z3, z4.os (fun k h1 h2 => h.os (fun i a b => hs i k (by unfold rgE; omega) (by omega))), z5.same (n 909 (by decide)) (fun a b h1 h2 h3 h4 => h a b (hs a b (by unfold rgE; omega) (by omega))), (n 913 (by decide)).trans z6, (n 914 (by decide)).trans z7, (n 912 (by decide)).trans z8, (n 917 (by decide)).trans z9, (n 923 (by decide)).trans z10, fun j k hj => ?_⟩
  have hjl := (List.getElem?_eq_some_iff.mp hj).1
  have kk : ∀ a, 919 ≤ a → a ≤ 922 → F' a (200 * e + j) = F a (200 * e + j) := fun a h1 h2 => h a _ (hs a _ (by unfold rgE; omega) (by omega))
  unfold KM
  rw [kk 919 (by decide) (by decide), kk 920 (by decide) (by decide), kk 921 (by decide) (by decide), kk 922 (by decide) (by decide)]
  exact z11 j k hj
theorem SLs.take {tb : Nat → Nat × Nat} {F : MS'} {base n : Nat} {O : List SO} (z : SLs tb F base O) : SLs tb F base (O.take n) := fun j o hj => by
  have hl := (List.getElem?_eq_some_iff.mp hj).1
  rw [List.length_take] at hl
  rw [List.getElem?_take_of_lt (by omega)] at hj
  exact z j o hj
theorem m_sends {E : EV} {h : AH} {q : Nat} {A : Nat → Nat} {F : MS'} (mp : MP h q A F) {tb : Nat → Nat × Nat} {e n0 : Nat} {W : List SO} (he : e ≤ 1) (hW : SLs tb F (400 + 200 * e) W) (hN : F 911 e = nI W.length) (hl : W.length ≤ 200) (hn0 : n0 ≤ W.length) : Ct E yX9_sends cX9_sends 4 none 2 0 [.ref q, .int (nI e), .int (nI n0)] h (fun v h1 => v = none ∧ ∃ F', MP h1 q A F' ∧ FM h h1 ∧ SLs tb F' (200 * e) (W.take n0) ∧ SLs tb F' (800 + 200 * e) (W.take n0) ∧ SLs tb F' (400 + 200 * e) (W.drop n0) ∧ F' 910 e = nI n0 ∧ F' 915 e = nI n0 ∧ F' 911 e = nI (W.length - n0) ∧ F' 917 e = 1 ∧ F' 918 e = 1 ∧ F' 916 e = F 912 e ∧ KE F F' (fun x y => ((901 ≤ x ∧ x ≤ 905) ∧ ((200 * e ≤ y ∧ y < 200 * e + 200) ∨ (400 + 200 * e ≤ y ∧ y < 600 + 200 * e) ∨ (800 + 200 * e ≤ y ∧ y < 1000 + 200 * e))) ∨ ((x = 910 ∨ x = 911 ∨ (915 ≤ x ∧ x ≤ 918)) ∧ y = e))) noX := by
  refine Ct_of RX9 (by decide +kernel) rfl (Nat.le_of_ble_eq_true rfl) (fun Γ X nt Q hin => ?_)
  have gm := FM.refl h
  refine V_aload_n (pc := 0) X 0 dX9_sends_0 rfl ?_
  refine V_get (pc := 1) X fl_X9_37 dX9_sends_1 mp.k (mp.f 910) ?_
  refine V_iload_n (pc := 4) X 1 dX9_sends_4 rfl ?_
  refine V_iload_n (pc := 5) X 2 dX9_sends_5 rfl ?_
  refine M_ast (pc := 6) X mp ⟨by unfold isA; decide, by decide⟩ (by show _ < 2; omega) dX9_sends_6 (fun h6 mp6 fm6 => ?_)
  have gm6 := gm.seq fm6
  refine V_aload_n (pc := 7) X 0 dX9_sends_7 rfl ?_
  refine V_get (pc := 8) X fl_X9_52 dX9_sends_8 mp6.k (mp6.f 915) ?_
  refine V_iload_n (pc := 11) X 1 dX9_sends_11 rfl ?_
  refine V_iload_n (pc := 12) X 2 dX9_sends_12 rfl ?_
  refine M_ast (pc := 13) X mp6 ⟨by unfold isA; decide, by decide⟩ (by show _ < 2; omega) dX9_sends_13 (fun h13 mp13 fm13 => ?_)
  have gm13 := gm6.seq fm13
  have k13 : ∀ x y, ¬ ((x = 910 ∨ x = 915) ∧ y = e) → fu (fu F 910 e (nI n0)) 915 e (nI n0) x y = F x y := fun x y hx => by
    rw [show (fu (fu F 910 e (nI n0)) 915 e (nI n0)) x y = fu F 910 e (nI n0) x y from if_neg (fun u => hx ⟨Or.inr u.1, u.2⟩)]
    exact if_neg (fun u => hx ⟨Or.inl u.1, u.2⟩)
  obtain ⟨F1, eF1⟩ : ∃ F1, F1 = fu (fu F 910 e (nI n0)) 915 e (nI n0) := ⟨_, rfl⟩
  rw [← eF1] at mp13 k13
  have f910 : F1 910 e = nI n0 := by rw [eF1, fu_i (by decide), fu_s]
  have f915 : F1 915 e = nI n0 := by rw [eF1, fu_s]
  refine V_iconst (pc := 14) (v := 0) X dX9_sends_14 (by decide) ?_
  show V _ _ _ _ _ _ (Value.int (nI 0) :: _)
  refine V_istore_n (pc := 15) X [(3, .int _), (0, .ref _), (1, .int _), (2, .int _)] dX9_sends_15 rfl (by decide) rfl ?_
  have key : ∀ (n k : Nat), n0 - k < n → k ≤ n0 → ∀ (hr : AH) (Fz : MS'), MP hr q A Fz → FM h hr → KO5 F1 Fz → (∀ j, OS Fz j = if 200 * e ≤ j ∧ j < 200 * e + k then OS F (j + 400) else if 800 + 200 * e ≤ j ∧ j < 800 + 200 * e + k then OS F (j - 400) else OS F j) → V E Γ 0 hr 16 [(3, .int (nI k)), (0, .ref q), (1, .int (nI e)), (2, .int (nI n0))] [] := by
    intro n
    induction n with
    | zero => exact fun k hn => absurd hn (Nat.not_lt_zero _)
    | succ n ih =>
      intro k hn hk hr Fz mpr gmr r1 r2
      refine V_iload_n (pc := 16) X 0 dX9_sends_16 rfl ?_
      refine V_iload_n (pc := 17) X 3 dX9_sends_17 rfl ?_
      refine V_icmp_ge (pc := 18) X 59 dX9_sends_18 (by decide) (fun c18 => ?_) (fun c18 => ?_)
      · have hie : ¬ k < n0 := fun y => nI_ge y (by omega) c18
        refine V_aload_n (pc := 59) X 1 dX9_sends_59 rfl ?_
        refine V_get (pc := 60) X fl_X9_40 dX9_sends_60 mpr.k (mpr.f 911) ?_
        refine V_iload_n (pc := 63) X 2 dX9_sends_63 rfl ?_
        refine V_dup2 (pc := 64) X dX9_sends_64 rfl rfl ?_
        have hkn : k = n0 := by omega
        subst hkn
        refine M_ald (pc := 65) X mpr ⟨by unfold isA; decide, by decide⟩ (by show _ < 2; omega) dX9_sends_65 ?_
        rw [r1 911 e (by decide), k13 911 e (by omega), hN]
        refine V_iload_n (pc := 66) X 3 dX9_sends_66 rfl ?_
        refine V_isub (pc := 67) X dX9_sends_67 ?_
        rw [pk_sub (by omega)]
        refine M_ast (pc := 68) X mpr ⟨by unfold isA; decide, by decide⟩ (by show _ < 2; omega) dX9_sends_68 (fun h68 mp68 fm68 => ?_)
        have gm68 := gmr.seq fm68
        obtain ⟨F2, eF2⟩ : ∃ F2, F2 = fu Fz 911 e (nI (W.length - k)) := ⟨_, rfl⟩
        rw [← eF2] at mp68
        have f2o : ∀ j, OS F2 j = OS Fz j := fun j => by rw [eF2]; exact OS_of (fun i a b => fu_i (by omega))
        have f211 : F2 911 e = nI (W.length - k) := by rw [eF2, fu_s]
        have f2k : ∀ x y, ¬ (901 ≤ x ∧ x ≤ 905) → ¬ (x = 911 ∧ y = e) → F2 x y = F1 x y := fun x y a b => by rw [eF2, show fu Fz 911 e (nI (W.length - k)) x y = Fz x y from if_neg b]; exact r1 x y a
        refine V_iconst (pc := 69) (v := 0) X dX9_sends_69 (by decide) ?_
        show V _ _ _ _ _ _ (Value.int (nI 0) :: _)
        refine V_istore_n (pc := 70) X [(3, .int _), (0, .ref _), (1, .int _), (2, .int _)] dX9_sends_70 rfl (by decide) rfl ?_
        have key2 : ∀ (n i : Nat), W.length - k - i < n → i ≤ W.length - k → ∀ (hr : AH) (Fy : MS'), MP hr q A Fy → FM h hr → KO5 F2 Fy → (∀ j, OS Fy j = if 400 + 200 * e ≤ j ∧ j < 400 + 200 * e + i then OS F (j + k) else OS Fz j) → V E Γ 0 hr 71 [(3, .int (nI i)), (0, .ref q), (1, .int (nI e)), (2, .int (nI k))] [] := by
          intro n
          induction n with
          | zero => exact fun i hn => absurd hn (Nat.not_lt_zero _)
          | succ n ih2 =>
            intro i hn hi hr Fy mps gms s1 s2
            refine V_iload_n (pc := 71) X 0 dX9_sends_71 rfl ?_
            refine V_aload_n (pc := 72) X 1 dX9_sends_72 rfl ?_
            refine V_get (pc := 73) X fl_X9_40 dX9_sends_73 mps.k (mps.f 911) ?_
            refine V_iload_n (pc := 76) X 2 dX9_sends_76 rfl ?_
            refine M_ald (pc := 77) X mps ⟨by unfold isA; decide, by decide⟩ (by show _ < 2; omega) dX9_sends_77 ?_
            rw [s1 911 e (by decide), f211]
            refine V_icmp_ge (pc := 78) X 105 dX9_sends_78 (by decide) (fun c78 => ?_) (fun c78 => ?_)
            · have hie : ¬ i < W.length - k := fun y => nI_ge y (by omega) c78
              refine V_aload_n (pc := 105) X 1 dX9_sends_105 rfl ?_
              refine V_get (pc := 106) X fl_X9_58 dX9_sends_106 mps.k (mps.f 917) ?_
              refine V_iload_n (pc := 109) X 2 dX9_sends_109 rfl ?_
              refine V_iconst (pc := 110) (v := 1) X dX9_sends_110 (by decide) ?_
              show V _ _ _ _ _ _ (Value.int (nI 1) :: _)
              refine M_zst (pc := 111) X mps (by decide) (Or.inr rfl) (by omega) dX9_sends_111 (fun h111 mp111 fm111 => ?_)
              have gm111 := gms.seq fm111
              refine V_aload_n (pc := 112) X 1 dX9_sends_112 rfl ?_
              refine V_get (pc := 113) X fl_X9_62 dX9_sends_113 mp111.k (mp111.f 918) ?_
              refine V_iload_n (pc := 116) X 2 dX9_sends_116 rfl ?_
              refine V_iconst (pc := 117) (v := 1) X dX9_sends_117 (by decide) ?_
              show V _ _ _ _ _ _ (Value.int (nI 1) :: _)
              refine M_zst (pc := 118) X mp111 (by decide) (Or.inr rfl) (by omega) dX9_sends_118 (fun h118 mp118 fm118 => ?_)
              have gm118 := gm111.seq fm118
              refine V_aload_n (pc := 119) X 1 dX9_sends_119 rfl ?_
              refine V_get (pc := 120) X fl_X9_55 dX9_sends_120 mp118.k (mp118.f 916) ?_
              refine V_iload_n (pc := 123) X 2 dX9_sends_123 rfl ?_
              refine V_aload_n (pc := 124) X 1 dX9_sends_124 rfl ?_
              refine V_get (pc := 125) X fl_X9_43 dX9_sends_125 mp118.k (mp118.f 912) ?_
              refine V_iload_n (pc := 128) X 2 dX9_sends_128 rfl ?_
              refine M_ald (pc := 129) X mp118 ⟨by unfold isA; decide, by decide⟩ (by show _ < 2; omega) dX9_sends_129 ?_
              rw [show fu (fu Fy 917 e _) 918 e _ 912 e = Fy 912 e from (fu_i (by decide)).trans (fu_i (by decide)), s1 912 e (by decide), f2k 912 e (by decide) (by omega), k13 912 e (by omega)]
              refine M_ast (pc := 130) X mp118 ⟨by unfold isA; decide, by decide⟩ (by show _ < 2; omega) dX9_sends_130 (fun h130 mp130 fm130 => ?_)
              have gm130 := gm118.seq fm130
              refine V_vret (pc := 131) X Q rfl dX9_sends_131 ?_
              have hi : i = W.length - k := by omega
              subst hi
              have fo : ∀ j, OS (fu (fu (fu Fy 917 e (nI 1)) 918 e (nI 1)) 916 e (F 912 e)) j = OS Fy j := fun j => OS_of (fun a b c => (fu_i (by omega)).trans ((fu_i (by omega)).trans (fu_i (by omega))))
              have fn : ∀ x, x ≠ 916 → x ≠ 917 → x ≠ 918 → (fu (fu (fu Fy 917 e (nI 1)) 918 e (nI 1)) 916 e (F 912 e)) x e = Fy x e := fun x a b c => (fu_i a).trans ((fu_i c).trans (fu_i b))
              refine ⟨rfl, _, mp130, gm130, fun j o hj => ?_, fun j o hj => ?_, fun j o hj => ?_, ?_, ?_, ?_, ?_, ?_, fu_s, fun x y hxy => ?_⟩
              · have hl2 := (List.getElem?_eq_some_iff.mp hj).1
                rw [List.length_take] at hl2
                rw [List.getElem?_take_of_lt (by omega)] at hj
                refine (hW j o hj).os ?_
                rw [fo, s2, if_neg (by omega), r2, if_pos (by omega), show 200 * e + j + 400 = 400 + 200 * e + j by omega]
              · have hl2 := (List.getElem?_eq_some_iff.mp hj).1
                rw [List.length_take] at hl2
                rw [List.getElem?_take_of_lt (by omega)] at hj
                refine (hW j o hj).os ?_
                rw [fo, s2, if_neg (by omega), r2, if_neg (by omega), if_pos (by omega), show 800 + 200 * e + j - 400 = 400 + 200 * e + j by omega]
              · rw [List.getElem?_drop] at hj
                have hl2 := (List.getElem?_eq_some_iff.mp hj).1
                refine (hW (k + j) o hj).os ?_
                rw [fo, s2, if_pos (by omega), show 400 + 200 * e + j + k = 400 + 200 * e + (k + j) by omega]
              · rw [fn 910 (by decide) (by decide) (by decide), s1 910 e (by decide), f2k 910 e (by decide) (by omega)]; exact f910
              · rw [fn 915 (by decide) (by decide) (by decide), s1 915 e (by decide), f2k 915 e (by decide) (by omega)]; exact f915
              · rw [fn 911 (by decide) (by decide) (by decide), s1 911 e (by decide)]; exact f211
              · rw [fu_i (by decide), fu_i (by decide), fu_s]; rfl
              · rw [fu_i (by decide), fu_s]; rfl
              · by_cases hx : 901 ≤ x ∧ x ≤ 905
                · have eo : OS (fu (fu (fu Fy 917 e (nI 1)) 918 e (nI 1)) 916 e (F 912 e)) y = OS F y := by
                    rw [fo, s2, if_neg (by omega), r2, if_neg (by omega), if_neg (by omega)]
                  unfold OS at eo
                  have e1 := congrArg (fun p => p.1) eo
                  have e2 := congrArg (fun p => p.2.1) eo
                  have e3 := congrArg (fun p => p.2.2.1) eo
                  have e4 := congrArg (fun p => p.2.2.2.1) eo
                  have e5 := congrArg (fun p => p.2.2.2.2) eo
                  rcases (show x = 901 ∨ x = 902 ∨ x = 903 ∨ x = 904 ∨ x = 905 by omega) with rfl | rfl | rfl | rfl | rfl
                  · exact e1
                  · exact e2
                  · exact e3
                  · exact e4
                  · exact e5
                · rw [show (fu (fu (fu Fy 917 e (nI 1)) 918 e (nI 1)) 916 e (F 912 e)) x y = Fy x y from (if_neg (by omega)).trans ((if_neg (by omega)).trans (if_neg (by omega))), s1 x y hx, f2k x y hx (by omega), k13 x y (by omega)]
            · have hlt : i < W.length - k := by
                rcases Nat.lt_or_ge (i) (W.length - k) with y | y
                · exact y
                · exact absurd (nI_le y (by omega)) c78
              refine V_aload_n (pc := 81) X 1 dX9_sends_81 rfl ?_
              refine V_iload_n (pc := 82) X 2 dX9_sends_82 rfl ?_
              refine V_callS (pc := 83) X _ (m_waitingAt (e := e)) cw_X9_112 (Q.room (by decide) (by decide)) rfl (Nat.le_of_ble_eq_true rfl) rfl (by omega) dX9_sends_83 (fun _ _ z => z.elim) ?_
              rintro v83 h83 ⟨rfl, e83⟩
              rw [e83]
              simp only [Option.toList_some, List.cons_append, List.nil_append]
              refine V_iload_n (pc := 86) X 3 dX9_sends_86 rfl ?_
              refine V_iadd (pc := 87) X dX9_sends_87 ?_
              rw [nI_add]
              refine V_iload_n (pc := 88) X 0 dX9_sends_88 rfl ?_
              refine V_iadd (pc := 89) X dX9_sends_89 ?_
              rw [nI_add]
              refine V_iload_n (pc := 90) X 2 dX9_sends_90 rfl ?_
              refine V_callS (pc := 91) X _ (m_waitingAt (e := e)) cw_X9_112 (Q.room (by decide) (by decide)) rfl (Nat.le_of_ble_eq_true rfl) rfl (by omega) dX9_sends_91 (fun _ _ z => z.elim) ?_
              rintro v91 h91 ⟨rfl, e91⟩
              rw [e91]
              simp only [Option.toList_some, List.cons_append, List.nil_append]
              refine V_iload_n (pc := 94) X 0 dX9_sends_94 rfl ?_
              refine V_iadd (pc := 95) X dX9_sends_95 ?_
              rw [nI_add]
              refine V_callV (pc := 96) X clk9 (by decide) mps.k _ (m_copies mps (i := 400 + 200 * e + k + i) (j := 400 + 200 * e + i) (by omega) (by omega)) cw_X9_119 (Q.room (by decide) (by decide)) rfl (Nat.le_of_ble_eq_true rfl) rfl (by omega) dX9_sends_96 (fun _ _ z => z.elim) ?_
              rintro v96 h96 ⟨rfl, Fx, mpx, gmx, x1, x2⟩
              simp only [Option.toList_none, List.nil_append]
              refine V_inc1 (pc := 99) X 0 [(3, .int _), (0, .ref _), (1, .int _), (2, .int _)] dX9_sends_99 rfl (by decide) rfl ?_
              rw [nI_1]
              refine V_goto (pc := 102) X 71 dX9_sends_102 (by decide) ?_
              refine ih2 (i + 1) (by omega) (by omega) _ Fx mpx (gms.seq gmx) (s1.seq x1) (fun j => ?_)
              rw [x2]
              by_cases e1 : j = 400 + 200 * e + i
              · rw [if_pos e1, if_pos (by omega), s2, r2]
                by_cases k0 : k = 0
                · rw [if_neg (by omega), if_neg (by omega), if_neg (by omega), show j + k = 400 + 200 * e + k + i by omega]
                · rw [if_neg (by omega), if_neg (by omega), if_neg (by omega), show j + k = 400 + 200 * e + k + i by omega]
              · rw [if_neg e1, s2]
                by_cases e3 : 400 + 200 * e ≤ j ∧ j < 400 + 200 * e + i
                · rw [if_pos e3, if_pos (by omega)]
                · rw [if_neg e3, if_neg (by omega)]
        exact key2 (W.length + 1) 0 (by omega) (Nat.zero_le _) _ F2 mp68 gm68 (KO5.refl F2) (fun j => by rw [if_neg (by omega)]; exact f2o j)
      · have hlt : k < n0 := by
          rcases Nat.lt_or_ge (k) (n0) with y | y
          · exact y
          · exact absurd (nI_le y (by omega)) c18
        refine V_aload_n (pc := 21) X 1 dX9_sends_21 rfl ?_
        refine V_iload_n (pc := 22) X 2 dX9_sends_22 rfl ?_
        refine V_callS (pc := 23) X _ (m_waitingAt (e := e)) cw_X9_112 (Q.room (by decide) (by decide)) rfl (Nat.le_of_ble_eq_true rfl) rfl (by omega) dX9_sends_23 (fun _ _ z => z.elim) ?_
        rintro v23 h23 ⟨rfl, e23⟩
        rw [e23]
        simp only [Option.toList_some, List.cons_append, List.nil_append]
        refine V_iload_n (pc := 26) X 0 dX9_sends_26 rfl ?_
        refine V_iadd (pc := 27) X dX9_sends_27 ?_
        rw [nI_add]
        refine V_iload_n (pc := 28) X 2 dX9_sends_28 rfl ?_
        refine V_callS (pc := 29) X _ (m_sentAt (e := e)) cw_X9_116 (Q.room (by decide) (by decide)) rfl (Nat.le_of_ble_eq_true rfl) rfl (by omega) dX9_sends_29 (fun _ _ z => z.elim) ?_
        rintro v29 h29 ⟨rfl, e29⟩
        rw [e29]
        simp only [Option.toList_some, List.cons_append, List.nil_append]
        refine V_iload_n (pc := 32) X 0 dX9_sends_32 rfl ?_
        refine V_iadd (pc := 33) X dX9_sends_33 ?_
        rw [nI_add]
        refine V_callV (pc := 34) X clk9 (by decide) mpr.k _ (m_copies mpr (i := 400 + 200 * e + k) (j := 0 + 200 * e + k) (by omega) (by omega)) cw_X9_119 (Q.room (by decide) (by decide)) rfl (Nat.le_of_ble_eq_true rfl) rfl (by omega) dX9_sends_34 (fun _ _ z => z.elim) ?_
        rintro v34 h34 ⟨rfl, Fy, mpy, gmy, y1, y2⟩
        simp only [Option.toList_none, List.nil_append]
        refine V_aload_n (pc := 37) X 1 dX9_sends_37 rfl ?_
        refine V_iload_n (pc := 38) X 2 dX9_sends_38 rfl ?_
        refine V_callS (pc := 39) X _ (m_waitingAt (e := e)) cw_X9_112 (Q.room (by decide) (by decide)) rfl (Nat.le_of_ble_eq_true rfl) rfl (by omega) dX9_sends_39 (fun _ _ z => z.elim) ?_
        rintro v39 h39 ⟨rfl, e39⟩
        rw [e39]
        simp only [Option.toList_some, List.cons_append, List.nil_append]
        refine V_iload_n (pc := 42) X 0 dX9_sends_42 rfl ?_
        refine V_iadd (pc := 43) X dX9_sends_43 ?_
        rw [nI_add]
        refine V_iload_n (pc := 44) X 2 dX9_sends_44 rfl ?_
        refine V_callS (pc := 45) X _ (m_upAt (e := e)) cw_X9_122 (Q.room (by decide) (by decide)) rfl (Nat.le_of_ble_eq_true rfl) rfl (by omega) dX9_sends_45 (fun _ _ z => z.elim) ?_
        rintro v45 h45 ⟨rfl, e45⟩
        rw [e45]
        simp only [Option.toList_some, List.cons_append, List.nil_append]
        refine V_iload_n (pc := 48) X 0 dX9_sends_48 rfl ?_
        refine V_iadd (pc := 49) X dX9_sends_49 ?_
        rw [nI_add]
        refine V_callV (pc := 50) X clk9 (by decide) mpy.k _ (m_copies mpy (i := 400 + 200 * e + k) (j := 800 + 200 * e + k) (by omega) (by omega)) cw_X9_119 (Q.room (by decide) (by decide)) rfl (Nat.le_of_ble_eq_true rfl) rfl (by omega) dX9_sends_50 (fun _ _ z => z.elim) ?_
        rintro v50 h50 ⟨rfl, Fx, mpx, gmx, x1, x2⟩
        simp only [Option.toList_none, List.nil_append]
        refine V_inc1 (pc := 53) X 0 [(3, .int _), (0, .ref _), (1, .int _), (2, .int _)] dX9_sends_53 rfl (by decide) rfl ?_
        rw [nI_1]
        refine V_goto (pc := 56) X 16 dX9_sends_56 (by decide) ?_
        refine ih (k + 1) (by omega) (by omega) _ Fx mpx ((gmr.seq gmy).seq gmx) ((r1.seq y1).seq x1) (fun j => ?_)
        have eS : OS Fz (400 + 200 * e + k) = OS F (400 + 200 * e + k) := by rw [r2, if_neg (by omega), if_neg (by omega)]
        rw [x2, y2, y2, if_neg (show ¬ 400 + 200 * e + k = 0 + 200 * e + k by omega), eS]
        by_cases e1 : j = 800 + 200 * e + k
        · rw [if_pos e1, if_neg (by omega), if_pos (by omega), show j - 400 = 400 + 200 * e + k by omega]
        · rw [if_neg e1]
          by_cases e2 : j = 0 + 200 * e + k
          · rw [if_pos e2, if_pos (by omega), show j + 400 = 400 + 200 * e + k by omega]
          · rw [if_neg e2, r2 j]
            by_cases e3 : 200 * e ≤ j ∧ j < 200 * e + k
            · rw [if_pos e3, if_pos (by omega)]
            · rw [if_neg e3, if_neg (show ¬ (200 * e ≤ j ∧ j < 200 * e + (k + 1)) by omega)]
              by_cases e4 : 800 + 200 * e ≤ j ∧ j < 800 + 200 * e + k
              · rw [if_pos e4, if_pos (by omega)]
              · rw [if_neg e4, if_neg (by omega)]
  exact key (n0 + 1) 0 (by omega) (Nat.zero_le _) _ F1 mp13 gm13 (KO5.refl F1) (fun j => by rw [if_neg (by omega), if_neg (by omega)]; exact OS_of (fun i a b => k13 i j (by omega)))
