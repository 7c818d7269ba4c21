/-! THE MODEL: CHANGES -/
theorem fu_j73 {F : MS'} {i j a b : Nat} {x : Int32} (h : b ≠ j) : fu F i j x a b = F a b := if_neg (fun z => h z.2)
theorem RM.nb {tb : Nat → Nat × Nat} {F F' : MS'} {s : SQ} (z : RM tb F s) (w : WS' s) (hH : (hop (zH s)).length ≤ 200) (k : KE F F' (fun a (_ : Nat) => a = 929 ∨ a = 930)) : RM tb F' s := by
  obtain ⟨z1, z2, z3, z4⟩ := z
  exact ⟨fun i hi => ⟨(z1 i hi).1.ke k (fun a b h _ => by unfold rgE at h; omega) hi (w.1 i hi).1.2.1.1 (w.1 i hi).1.2.2.1.1 (w.1 i hi).1.2.2.2.1.1, (z1 i hi).2.ke k (fun a b h => by unfold rgU at h; omega) (fun m hm => ((w.1 i hi).2.2.1 m hm).2.2.1)⟩, z2.same (k 909 2 (by decide)) (fun a b h1 h2 _ _ => k a b (by omega)), z3.ke k (fun a b h1 h2 h3 h4 => by omega) (fun a b h => by omega) ⟨by decide, by decide⟩ hH, (k 926 0 (by decide)).trans z4⟩
theorem KE.nb {F F' : MS'} {i k : Nat} {v : Int32} (h : KE F F' (fun a (_ : Nat) => a = 929 ∨ a = 930)) (hi : i = 929 ∨ i = 930) : KE F (fu F' i k v) (fun a (_ : Nat) => a = 929 ∨ a = 930) := fun a b hab => by
  have hab' : ¬ (a = 929 ∨ a = 930) := hab
  exact (fu_i (by omega)).trans (h a b hab)
theorem y_distance {E : EV} {h : AH} {q : Nat} {A : Nat → Nat} {F : MS'} {s : SQ} (mp : MP h q A F) (rm : RM (zT s) F s) (w : WS' s) (hH : (hop (zH s)).length ≤ 200) (hT : ∀ y ∈ zL s, (zT s y).1 < 127)  : Ct E yX9_distance cX9_distance 4 (some .int) 3 0 [.ref q] h (fun v h1 => v = some (.int (nI (dst (mt (zT s) (eX (zE s 0)) (eX (zE s 1))) (eX (zE s 0)).length (eX (zE s 1)).length))) ∧ MR h h1 q A s 0) noX := by
  refine Ct_of RX9 (by decide +kernel) rfl (Nat.le_of_ble_eq_true rfl) (fun Γ X nt Q hin => ?_)
  have gm := FM.refl h
  refine V_aload_n (pc := 0) X 0 dX9_distance_0 rfl ?_
  refine V_iconst (pc := 1) (v := 0) X dX9_distance_1 (by decide) ?_
  show V _ _ _ _ _ _ (Value.int (nI 0) :: _)
  refine M_put (pc := 2) X mp (i := 900) (by unfold isS; decide) fl_X9_92 dX9_distance_2 (fun h2 mp2 fm2 => ?_)
  have gm2 := gm.seq fm2
  have rm2 := rm.th w hH (nI 0)
  obtain ⟨F2, eF2⟩ : ∃ F2, F2 = fu F 900 0 (nI 0) := ⟨_, rfl⟩
  have z9 : F2 900 0 = nI 0 := by rw [eF2]; exact fu_s
  rw [← eF2] at mp2 rm2
  obtain ⟨xs, exs⟩ : ∃ xs, xs = eX (zE s 0) := ⟨_, rfl⟩
  obtain ⟨ys, eys⟩ : ∃ ys, ys = eX (zE s 1) := ⟨_, rfl⟩
  have tx := (rm2.1 0 (by decide)).1.2.2.2.2.1
  have ty := (rm2.1 1 (by decide)).1.2.2.2.2.1
  have hx1 : xs.length ≤ 200 := by rw [exs]; exact (w.1 0 (by decide)).1.1.1
  have hy1 : ys.length ≤ 200 := by rw [eys]; exact (w.1 1 (by decide)).1.1.1
  have hxT : ∀ y ∈ xs, (zT s y).1 < 127 := fun y hy => hT y ((w.1 0 (by decide)).1.1.2 y (by rw [exs] at hy; exact hy))
  have hyT : ∀ y ∈ ys, (zT s y).1 < 127 := fun y hy => hT y ((w.1 1 (by decide)).1.1.2 y (by rw [eys] at hy; exact hy))
  rw [← exs] at tx
  rw [← eys] at ty
  have hup := fun a b => dst_up (mt (zT s) xs ys) a b
  refine V_iconst (pc := 5) (v := 0) X dX9_distance_5 (by decide) ?_
  show V _ _ _ _ _ _ (Value.int (nI 0) :: _)
  refine V_istore_n (pc := 6) X [(1, .int _), (0, .ref _)] dX9_distance_6 rfl (by decide) rfl ?_
  have key : ∀ (n i : Nat), ys.length + 1 - i < n → i ≤ ys.length + 1 → ∀ (hr : AH) (Fz : MS'), MP hr q A Fz → FM h hr → KE F2 Fz (fun a (_ : Nat) => a = 929 ∨ a = 930) → (∀ j, j < i → Fz 929 j = nI j) → V E Γ 0 hr 7 [(1, .int (nI i)), (0, .ref q)] [] := by
    intro n
    induction n with
    | zero => exact fun i hn => absurd hn (Nat.not_lt_zero _)
    | succ n ih =>
      intro i hn hi hr Fz mpr gmr kz r1
      refine V_iload_n (pc := 7) X 0 dX9_distance_7 rfl ?_
      refine V_aload_n (pc := 8) X 1 dX9_distance_8 rfl ?_
      refine V_get (pc := 9) X fl_X9_34 dX9_distance_9 mpr.k (mpr.f 909) ?_
      refine V_iconst (pc := 12) (v := 1) X dX9_distance_12 (by decide) ?_
      show V _ _ _ _ _ _ (Value.int (nI 1) :: _)
      refine M_ald (pc := 13) X mpr ⟨by unfold isA; decide, by decide⟩ (by show _ < 3; omega) dX9_distance_13 ?_
      rw [kz 909 1 (by decide), ty.2.1]
      refine V_icmp_gt (pc := 14) X 30 dX9_distance_14 (by decide) (fun c14 => ?_) (fun c14 => ?_)
      · have hie : ys.length < i := (nI_ltI (by omega) (by omega)).mp c14
        clear ih
        refine V_iconst (pc := 30) (v := 1) X dX9_distance_30 (by decide) ?_
        show V _ _ _ _ _ _ (Value.int (nI 1) :: _)
        refine V_istore_n (pc := 31) X [(1, .int _), (0, .ref _)] dX9_distance_31 rfl (by decide) rfl ?_
        have key2 : ∀ (n i : Nat), xs.length - i < n → i ≤ xs.length → ∀ (hr : AH) (Fz : MS'), MP hr q A Fz → FM h hr → KE F2 Fz (fun a (_ : Nat) => a = 929 ∨ a = 930) → (∀ j, j ≤ ys.length → Fz 929 j = nI (dst (mt (zT s) xs ys) i j)) → V E Γ 0 hr 32 [(1, .int (nI (i + 1))), (0, .ref q)] [] := by
          intro n
          induction n with
          | zero => exact fun i hn => absurd hn (Nat.not_lt_zero _)
          | succ n ih =>
            intro i hn hi hr Fz mps gms kz r1
            refine V_iload_n (pc := 32) X 0 dX9_distance_32 rfl ?_
            refine V_aload_n (pc := 33) X 1 dX9_distance_33 rfl ?_
            refine V_get (pc := 34) X fl_X9_34 dX9_distance_34 mps.k (mps.f 909) ?_
            refine V_iconst (pc := 37) (v := 0) X dX9_distance_37 (by decide) ?_
            show V _ _ _ _ _ _ (Value.int (nI 0) :: _)
            refine M_ald (pc := 38) X mps ⟨by unfold isA; decide, by decide⟩ (by show _ < 3; omega) dX9_distance_38 ?_
            rw [kz 909 0 (by decide), tx.2.1]
            refine V_icmp_gt (pc := 39) X 177 dX9_distance_39 (by decide) (fun c39 => ?_) (fun c39 => ?_)
            · have hie : xs.length < i + 1 := (nI_ltI (by omega) (by omega)).mp c39
              refine V_aload_n (pc := 177) X 1 dX9_distance_177 rfl ?_
              refine V_get (pc := 178) X fl_X9_86 dX9_distance_178 mps.k (mps.f 929) ?_
              refine V_aload_n (pc := 181) X 1 dX9_distance_181 rfl ?_
              refine V_get (pc := 182) X fl_X9_34 dX9_distance_182 mps.k (mps.f 909) ?_
              refine V_iconst (pc := 185) (v := 1) X dX9_distance_185 (by decide) ?_
              show V _ _ _ _ _ _ (Value.int (nI 1) :: _)
              refine M_ald (pc := 186) X mps ⟨by unfold isA; decide, by decide⟩ (by show _ < 3; omega) dX9_distance_186 ?_
              rw [kz 909 1 (by decide), ty.2.1]
              refine M_ald (pc := 187) X mps ⟨by unfold isA; decide, by decide⟩ (by show _ < 201; omega) dX9_distance_187 ?_
              rw [r1 ys.length (Nat.le_refl _)]
              refine V_iret (pc := 188) X Q rfl rfl dX9_distance_188 ?_
              have hix : i = xs.length := by omega
              rw [← exs, ← eys, ← hix]
              exact ⟨rfl, Fz, mps, gms, rm2.nb w hH kz, (kz 900 0 (by decide)).trans z9⟩
            · have hlt : i + 1 ≤ xs.length := by
                rcases Nat.lt_or_ge (xs.length) (i + 1) with z | z
                · exact absurd (nI_lt z (by omega)) c39
                · exact z
              refine V_iconst (pc := 42) (v := 0) X dX9_distance_42 (by decide) ?_
              show V _ _ _ _ _ _ (Value.int (nI 0) :: _)
              refine V_istore_n (pc := 43) X [(2, .int _), (1, .int _), (0, .ref _)] dX9_distance_43 rfl (by decide) rfl ?_
              have key3 : ∀ (n j : Nat), ys.length + 1 - j < n → j ≤ ys.length + 1 → ∀ (hw : AH) (Fw : MS'), MP hw q A Fw → FM h hw → KE F2 Fw (fun a (_ : Nat) => a = 929 ∨ a = 930) → (∀ k, k ≤ ys.length → Fw 929 k = nI (dst (mt (zT s) xs ys) i k)) → (∀ k, k < j → Fw 930 k = nI (dst (mt (zT s) xs ys) i k)) → V E Γ 0 hw 44 [(2, .int (nI j)), (1, .int (nI (i + 1))), (0, .ref q)] [] := by
                intro n
                induction n with
                | zero => exact fun j hn => absurd hn (Nat.not_lt_zero _)
                | succ n ih3 =>
                  intro j hn hj hw Fw mpt gmt kw q1 q2
                  refine V_iload_n (pc := 44) X 0 dX9_distance_44 rfl ?_
                  refine V_aload_n (pc := 45) X 2 dX9_distance_45 rfl ?_
                  refine V_get (pc := 46) X fl_X9_34 dX9_distance_46 mpt.k (mpt.f 909) ?_
                  refine V_iconst (pc := 49) (v := 1) X dX9_distance_49 (by decide) ?_
                  show V _ _ _ _ _ _ (Value.int (nI 1) :: _)
                  refine M_ald (pc := 50) X mpt ⟨by unfold isA; decide, by decide⟩ (by show _ < 3; omega) dX9_distance_50 ?_
                  rw [kw 909 1 (by decide), ty.2.1]
                  refine V_icmp_gt (pc := 51) X 72 dX9_distance_51 (by decide) (fun c51 => ?_) (fun c51 => ?_)
                  · have hie : ys.length < j := (nI_ltI (by omega) (by omega)).mp c51
                    clear ih3
                    refine V_aload_n (pc := 72) X 2 dX9_distance_72 rfl ?_
                    refine V_get (pc := 73) X fl_X9_86 dX9_distance_73 mpt.k (mpt.f 929) ?_
                    refine V_iconst (pc := 76) (v := 0) X dX9_distance_76 (by decide) ?_
                    show V _ _ _ _ _ _ (Value.int (nI 0) :: _)
                    refine V_iload_n (pc := 77) X 1 dX9_distance_77 rfl ?_
                    refine M_ast (pc := 78) X mpt ⟨by unfold isA; decide, by decide⟩ (by show _ < 201; omega) dX9_distance_78 (fun h78 mp78 fm78 => ?_)
                    have gm78 := gmt.seq fm78
                    refine V_iconst (pc := 79) (v := 1) X dX9_distance_79 (by decide) ?_
                    show V _ _ _ _ _ _ (Value.int (nI 1) :: _)
                    refine V_istore_n (pc := 80) X [(2, .int _), (1, .int _), (0, .ref _)] dX9_distance_80 rfl (by decide) rfl ?_
                    have key4 : ∀ (n j : Nat), ys.length - j < n → j ≤ ys.length → ∀ (hv : AH) (Fv : MS'), MP hv q A Fv → FM h hv → KE F2 Fv (fun a (_ : Nat) => a = 929 ∨ a = 930) → (∀ k, k ≤ ys.length → Fv 930 k = nI (dst (mt (zT s) xs ys) i k)) → (∀ k, k ≤ j → Fv 929 k = nI (dst (mt (zT s) xs ys) (i + 1) k)) → V E Γ 0 hv 81 [(2, .int (nI (j + 1))), (1, .int (nI (i + 1))), (0, .ref q)] [] := by
                      intro n
                      induction n with
                      | zero => exact fun j hn => absurd hn (Nat.not_lt_zero _)
                      | succ n ih4 =>
                        intro j hn hj2 hv Fv mpv gmv kv v2 v1
                        refine V_iload_n (pc := 81) X 0 dX9_distance_81 rfl ?_
                        refine V_aload_n (pc := 82) X 2 dX9_distance_82 rfl ?_
                        refine V_get (pc := 83) X fl_X9_34 dX9_distance_83 mpv.k (mpv.f 909) ?_
                        refine V_iconst (pc := 86) (v := 1) X dX9_distance_86 (by decide) ?_
                        show V _ _ _ _ _ _ (Value.int (nI 1) :: _)
                        refine M_ald (pc := 87) X mpv ⟨by unfold isA; decide, by decide⟩ (by show _ < 3; omega) dX9_distance_87 ?_
                        rw [kv 909 1 (by decide), ty.2.1]
                        refine V_icmp_gt (pc := 88) X 171 dX9_distance_88 (by decide) (fun c88 => ?_) (fun c88 => ?_)
                        · have hie : ys.length < j + 1 := (nI_ltI (by omega) (by omega)).mp c88
                          refine V_inc1 (pc := 171) X 1 [(1, .int _), (2, .int _), (0, .ref _)] dX9_distance_171 rfl (by decide) rfl ?_
                          rw [nI_1]
                          refine V_goto (pc := 174) X 32 dX9_distance_174 (by decide) ?_
                          have hjy : j = ys.length := by omega
                          refine V.sub [0, 2] rfl ?_
                          exact ih (i + 1) (by omega) (by omega) _ _ mpv gmv kv (fun k hk => v1 k (by omega))
                        · have hlt : j + 1 ≤ ys.length := by
                            rcases Nat.lt_or_ge (ys.length) (j + 1) with z | z
                            · exact absurd (nI_lt z (by omega)) c88
                            · exact z
                          have hdi := hup i (j + 1)
                          have hdj := hup (i + 1) j
                          have hdk := hup i j
                          obtain ⟨a, ha⟩ : ∃ a, xs[i]? = some a := ⟨_, List.getElem?_eq_getElem (by omega)⟩
                          obtain ⟨b, hb⟩ : ∃ b, ys[j]? = some b := ⟨_, List.getElem?_eq_getElem (by omega)⟩
                          have ca := hxT a (List.mem_of_getElem? ha)
                          have cb := hyT b (List.mem_of_getElem? hb)
                          have txv : TM (zT s) Fv 0 xs := tx.same (kv 909 0 (by decide)) (fun a c h1 h2 _ _ => kv a c (by omega))
                          have tyv : TM (zT s) Fv 1 ys := ty.same (kv 909 1 (by decide)) (fun a c h1 h2 _ _ => kv a c (by omega))
                          have emt : mt (zT s) xs ys i j = decide ((zT s a).1 = (zT s b).1) := by unfold mt; rw [ha, hb]
                          refine V_aload_n (pc := 91) X 2 dX9_distance_91 rfl ?_
                          refine V_get (pc := 92) X fl_X9_86 dX9_distance_92 mpv.k (mpv.f 929) ?_
                          refine V_iload_n (pc := 95) X 0 dX9_distance_95 rfl ?_
                          refine V_iconst (pc := 96) (v := 1) X dX9_distance_96 (by decide) ?_
                          show V _ _ _ _ _ _ (Value.int (nI 1) :: _)
                          refine V_isub (pc := 97) X dX9_distance_97 ?_
                          rw [pk_sub (by omega)]
                          rw [Nat.add_sub_cancel]
                          refine M_ald (pc := 98) X mpv ⟨by unfold isA; decide, by decide⟩ (by show _ < 201; omega) dX9_distance_98 ?_
                          rw [v1 j (Nat.le_refl _)]
                          refine V_aload_n (pc := 99) X 2 dX9_distance_99 rfl ?_
                          refine V_get (pc := 100) X fl_X9_89 dX9_distance_100 mpv.k (mpv.f 930) ?_
                          refine V_iload_n (pc := 103) X 0 dX9_distance_103 rfl ?_
                          refine M_ald (pc := 104) X mpv ⟨by unfold isA; decide, by decide⟩ (by show _ < 201; omega) dX9_distance_104 ?_
                          rw [v2 (j + 1) hlt]
                          refine V_icmp_ge (pc := 105) X 119 dX9_distance_105 (by decide) (fun c105 => ?_) (fun c105 => ?_)
                          · have k105 : dst (mt (zT s) xs ys) i (j + 1) ≤ dst (mt (zT s) xs ys) (i + 1) j := (nI_leI (by omega) (by omega)).mp c105
                            have kmin := Nat.min_eq_left k105
                            refine V_aload_n (pc := 119) X 2 dX9_distance_119 rfl ?_
                            refine V_get (pc := 120) X fl_X9_89 dX9_distance_120 mpv.k (mpv.f 930) ?_
                            refine V_iload_n (pc := 123) X 0 dX9_distance_123 rfl ?_
                            refine M_ald (pc := 124) X mpv ⟨by unfold isA; decide, by decide⟩ (by show _ < 201; omega) dX9_distance_124 ?_
                            rw [v2 (j + 1) hlt]
                            refine V_istore_n (pc := 125) X [(3, .int _), (2, .int _), (1, .int _), (0, .ref _)] dX9_distance_125 rfl (by decide) rfl ?_
                            refine V_aload_n (pc := 126) X 3 dX9_distance_126 rfl ?_
                            refine V_get (pc := 127) X fl_X9_86 dX9_distance_127 mpv.k (mpv.f 929) ?_
                            refine V_iload_n (pc := 130) X 1 dX9_distance_130 rfl ?_
                            refine V_aload_n (pc := 131) X 3 dX9_distance_131 rfl ?_
                            refine V_iconst (pc := 132) (v := 0) X dX9_distance_132 (by decide) ?_
                            show V _ _ _ _ _ _ (Value.int (nI 0) :: _)
                            refine V_iload_n (pc := 133) X 2 dX9_distance_133 rfl ?_
                            refine V_iconst (pc := 134) (v := 1) X dX9_distance_134 (by decide) ?_
                            show V _ _ _ _ _ _ (Value.int (nI 1) :: _)
                            refine V_isub (pc := 135) X dX9_distance_135 ?_
                            rw [pk_sub (by omega)]
                            rw [Nat.add_sub_cancel]
                            refine V_callV (pc := 136) X clk9 (by decide) mpv.k _ (m_codeAt mpv (by decide) txv ha) cw_X9_157 (Q.room (by decide) (by decide)) rfl (Nat.le_of_ble_eq_true rfl) rfl (by omega) dX9_distance_136 (fun _ _ z => z.elim) ?_
                            rintro v136 h136 ⟨rfl, e136⟩
                            rw [e136]
                            simp only [Option.toList_some, List.cons_append, List.nil_append]
                            refine V_aload_n (pc := 139) X 3 dX9_distance_139 rfl ?_
                            refine V_iconst (pc := 140) (v := 1) X dX9_distance_140 (by decide) ?_
                            show V _ _ _ _ _ _ (Value.int (nI 1) :: _)
                            refine V_iload_n (pc := 141) X 1 dX9_distance_141 rfl ?_
                            refine V_iconst (pc := 142) (v := 1) X dX9_distance_142 (by decide) ?_
                            show V _ _ _ _ _ _ (Value.int (nI 1) :: _)
                            refine V_isub (pc := 143) X dX9_distance_143 ?_
                            rw [pk_sub (by omega)]
                            rw [Nat.add_sub_cancel]
                            refine V_callV (pc := 144) X clk9 (by decide) mpv.k _ (m_codeAt mpv (by decide) tyv hb) cw_X9_157 (Q.room (by decide) (by decide)) rfl (Nat.le_of_ble_eq_true rfl) rfl (by omega) dX9_distance_144 (fun _ _ z => z.elim) ?_
                            rintro v144 h144 ⟨rfl, e144⟩
                            rw [e144]
                            simp only [Option.toList_some, List.cons_append, List.nil_append]
                            refine V_icmp_ne (pc := 147) X 161 dX9_distance_147 (by decide) (fun c147 => ?_) (fun c147 => ?_)
                            · have k147 : ¬ (zT s a).1 = (zT s b).1 := fun y => c147 (by rw [y])
                              have hds := dst_f (show mt (zT s) xs ys i j = false by rw [emt]; simpa using k147)
                              rw [kmin] at hds
                              refine V_iload_n (pc := 161) X 0 dX9_distance_161 rfl ?_
                              refine V_iconst (pc := 162) (v := 1) X dX9_distance_162 (by decide) ?_
                              show V _ _ _ _ _ _ (Value.int (nI 1) :: _)
                              refine V_iadd (pc := 163) X dX9_distance_163 ?_
                              rw [nI_add]
                              refine M_ast (pc := 164) X mpv ⟨by unfold isA; decide, by decide⟩ (by show _ < 201; omega) dX9_distance_164 (fun h164 mp164 fm164 => ?_)
                              have gm164 := gmv.seq fm164
                              refine V_inc1 (pc := 165) X 1 [(2, .int _), (3, .int _), (1, .int _), (0, .ref _)] dX9_distance_165 rfl (by decide) rfl ?_
                              rw [nI_1]
                              refine V_goto (pc := 168) X 81 dX9_distance_168 (by decide) ?_
                              refine V.sub [0, 2, 3] rfl ?_
                              exact ih4 (j + 1) (by omega) hlt _ _ mp164 gm164 (kv.nb (Or.inl rfl)) (fun k hk => (fu_i (by omega)).trans (v2 k hk)) (fun k hk => by
                                by_cases ek : k = j + 1
                                · rw [ek, fu_s, hds]
                                · exact (fu_j73 (by omega)).trans (v1 k (by omega)))
                            · have k147 : (zT s a).1 = (zT s b).1 := (nI_eq (by omega) (by omega)).mp c147
                              have hds := dst_t (show mt (zT s) xs ys i j = true by rw [emt]; simpa using k147)
                              refine V_aload_n (pc := 150) X 3 dX9_distance_150 rfl ?_
                              refine V_get (pc := 151) X fl_X9_89 dX9_distance_151 mpv.k (mpv.f 930) ?_
                              refine V_iload_n (pc := 154) X 1 dX9_distance_154 rfl ?_
                              refine V_iconst (pc := 155) (v := 1) X dX9_distance_155 (by decide) ?_
                              show V _ _ _ _ _ _ (Value.int (nI 1) :: _)
                              refine V_isub (pc := 156) X dX9_distance_156 ?_
                              rw [pk_sub (by omega)]
                              rw [Nat.add_sub_cancel]
                              refine M_ald (pc := 157) X mpv ⟨by unfold isA; decide, by decide⟩ (by show _ < 201; omega) dX9_distance_157 ?_
                              rw [v2 j (by omega)]
                              refine V_goto (pc := 158) X 164 dX9_distance_158 (by decide) ?_
                              refine M_ast (pc := 164) X mpv ⟨by unfold isA; decide, by decide⟩ (by show _ < 201; omega) dX9_distance_164 (fun h164 mp164 fm164 => ?_)
                              have gm164 := gmv.seq fm164
                              refine V_inc1 (pc := 165) X 1 [(2, .int _), (3, .int _), (1, .int _), (0, .ref _)] dX9_distance_165 rfl (by decide) rfl ?_
                              rw [nI_1]
                              refine V_goto (pc := 168) X 81 dX9_distance_168 (by decide) ?_
                              refine V.sub [0, 2, 3] rfl ?_
                              exact ih4 (j + 1) (by omega) hlt _ _ mp164 gm164 (kv.nb (Or.inl rfl)) (fun k hk => (fu_i (by omega)).trans (v2 k hk)) (fun k hk => by
                                by_cases ek : k = j + 1
                                · rw [ek, fu_s, hds]
                                · exact (fu_j73 (by omega)).trans (v1 k (by omega)))
                          · have k105 : dst (mt (zT s) xs ys) (i + 1) j ≤ dst (mt (zT s) xs ys) i (j + 1) := by
                              rcases Nat.lt_or_ge (dst (mt (zT s) xs ys) (i + 1) j) (dst (mt (zT s) xs ys) i (j + 1)) with z | z
                              · omega
                              · exact absurd (nI_le z (by omega)) c105
                            have kmin := Nat.min_eq_right k105
                            refine V_aload_n (pc := 108) X 2 dX9_distance_108 rfl ?_
                            refine V_get (pc := 109) X fl_X9_86 dX9_distance_109 mpv.k (mpv.f 929) ?_
                            refine V_iload_n (pc := 112) X 0 dX9_distance_112 rfl ?_
                            refine V_iconst (pc := 113) (v := 1) X dX9_distance_113 (by decide) ?_
                            show V _ _ _ _ _ _ (Value.int (nI 1) :: _)
                            refine V_isub (pc := 114) X dX9_distance_114 ?_
                            rw [pk_sub (by omega)]
                            rw [Nat.add_sub_cancel]
                            refine M_ald (pc := 115) X mpv ⟨by unfold isA; decide, by decide⟩ (by show _ < 201; omega) dX9_distance_115 ?_
                            rw [v1 j (Nat.le_refl _)]
                            refine V_goto (pc := 116) X 125 dX9_distance_116 (by decide) ?_
                            refine V_istore_n (pc := 125) X [(3, .int _), (2, .int _), (1, .int _), (0, .ref _)] dX9_distance_125 rfl (by decide) rfl ?_
                            refine V_aload_n (pc := 126) X 3 dX9_distance_126 rfl ?_
                            refine V_get (pc := 127) X fl_X9_86 dX9_distance_127 mpv.k (mpv.f 929) ?_
                            refine V_iload_n (pc := 130) X 1 dX9_distance_130 rfl ?_
                            refine V_aload_n (pc := 131) X 3 dX9_distance_131 rfl ?_
                            refine V_iconst (pc := 132) (v := 0) X dX9_distance_132 (by decide) ?_
                            show V _ _ _ _ _ _ (Value.int (nI 0) :: _)
                            refine V_iload_n (pc := 133) X 2 dX9_distance_133 rfl ?_
                            refine V_iconst (pc := 134) (v := 1) X dX9_distance_134 (by decide) ?_
                            show V _ _ _ _ _ _ (Value.int (nI 1) :: _)
                            refine V_isub (pc := 135) X dX9_distance_135 ?_
                            rw [pk_sub (by omega)]
                            rw [Nat.add_sub_cancel]
                            refine V_callV (pc := 136) X clk9 (by decide) mpv.k _ (m_codeAt mpv (by decide) txv ha) cw_X9_157 (Q.room (by decide) (by decide)) rfl (Nat.le_of_ble_eq_true rfl) rfl (by omega) dX9_distance_136 (fun _ _ z => z.elim) ?_
                            rintro v136 h136 ⟨rfl, e136⟩
                            rw [e136]
                            simp only [Option.toList_some, List.cons_append, List.nil_append]
                            refine V_aload_n (pc := 139) X 3 dX9_distance_139 rfl ?_
                            refine V_iconst (pc := 140) (v := 1) X dX9_distance_140 (by decide) ?_
                            show V _ _ _ _ _ _ (Value.int (nI 1) :: _)
                            refine V_iload_n (pc := 141) X 1 dX9_distance_141 rfl ?_
                            refine V_iconst (pc := 142) (v := 1) X dX9_distance_142 (by decide) ?_
                            show V _ _ _ _ _ _ (Value.int (nI 1) :: _)
                            refine V_isub (pc := 143) X dX9_distance_143 ?_
                            rw [pk_sub (by omega)]
                            rw [Nat.add_sub_cancel]
                            refine V_callV (pc := 144) X clk9 (by decide) mpv.k _ (m_codeAt mpv (by decide) tyv hb) cw_X9_157 (Q.room (by decide) (by decide)) rfl (Nat.le_of_ble_eq_true rfl) rfl (by omega) dX9_distance_144 (fun _ _ z => z.elim) ?_
                            rintro v144 h144 ⟨rfl, e144⟩
                            rw [e144]
                            simp only [Option.toList_some, List.cons_append, List.nil_append]
                            refine V_icmp_ne (pc := 147) X 161 dX9_distance_147 (by decide) (fun c147 => ?_) (fun c147 => ?_)
                            · have k147 : ¬ (zT s a).1 = (zT s b).1 := fun y => c147 (by rw [y])
                              have hds := dst_f (show mt (zT s) xs ys i j = false by rw [emt]; simpa using k147)
                              rw [kmin] at hds
                              refine V_iload_n (pc := 161) X 0 dX9_distance_161 rfl ?_
                              refine V_iconst (pc := 162) (v := 1) X dX9_distance_162 (by decide) ?_
                              show V _ _ _ _ _ _ (Value.int (nI 1) :: _)
                              refine V_iadd (pc := 163) X dX9_distance_163 ?_
                              rw [nI_add]
                              refine M_ast (pc := 164) X mpv ⟨by unfold isA; decide, by decide⟩ (by show _ < 201; omega) dX9_distance_164 (fun h164 mp164 fm164 => ?_)
                              have gm164 := gmv.seq fm164
                              refine V_inc1 (pc := 165) X 1 [(2, .int _), (3, .int _), (1, .int _), (0, .ref _)] dX9_distance_165 rfl (by decide) rfl ?_
                              rw [nI_1]
                              refine V_goto (pc := 168) X 81 dX9_distance_168 (by decide) ?_
                              refine V.sub [0, 2, 3] rfl ?_
                              exact ih4 (j + 1) (by omega) hlt _ _ mp164 gm164 (kv.nb (Or.inl rfl)) (fun k hk => (fu_i (by omega)).trans (v2 k hk)) (fun k hk => by
                                by_cases ek : k = j + 1
                                · rw [ek, fu_s, hds]
                                · exact (fu_j73 (by omega)).trans (v1 k (by omega)))
                            · have k147 : (zT s a).1 = (zT s b).1 := (nI_eq (by omega) (by omega)).mp c147
                              have hds := dst_t (show mt (zT s) xs ys i j = true by rw [emt]; simpa using k147)
                              refine V_aload_n (pc := 150) X 3 dX9_distance_150 rfl ?_
                              refine V_get (pc := 151) X fl_X9_89 dX9_distance_151 mpv.k (mpv.f 930) ?_
                              refine V_iload_n (pc := 154) X 1 dX9_distance_154 rfl ?_
                              refine V_iconst (pc := 155) (v := 1) X dX9_distance_155 (by decide) ?_
                              show V _ _ _ _ _ _ (Value.int (nI 1) :: _)
                              refine V_isub (pc := 156) X dX9_distance_156 ?_
                              rw [pk_sub (by omega)]
                              rw [Nat.add_sub_cancel]
                              refine M_ald (pc := 157) X mpv ⟨by unfold isA; decide, by decide⟩ (by show _ < 201; omega) dX9_distance_157 ?_
                              rw [v2 j (by omega)]
                              refine V_goto (pc := 158) X 164 dX9_distance_158 (by decide) ?_
                              refine M_ast (pc := 164) X mpv ⟨by unfold isA; decide, by decide⟩ (by show _ < 201; omega) dX9_distance_164 (fun h164 mp164 fm164 => ?_)
                              have gm164 := gmv.seq fm164
                              refine V_inc1 (pc := 165) X 1 [(2, .int _), (3, .int _), (1, .int _), (0, .ref _)] dX9_distance_165 rfl (by decide) rfl ?_
                              rw [nI_1]
                              refine V_goto (pc := 168) X 81 dX9_distance_168 (by decide) ?_
                              refine V.sub [0, 2, 3] rfl ?_
                              exact ih4 (j + 1) (by omega) hlt _ _ mp164 gm164 (kv.nb (Or.inl rfl)) (fun k hk => (fu_i (by omega)).trans (v2 k hk)) (fun k hk => by
                                by_cases ek : k = j + 1
                                · rw [ek, fu_s, hds]
                                · exact (fu_j73 (by omega)).trans (v1 k (by omega)))
                    exact key4 (ys.length + 1) 0 (by omega) (Nat.zero_le _) _ _ mp78 gm78 (kw.nb (Or.inl rfl)) (fun k hk => (fu_i (by omega)).trans (q2 k (by omega))) (fun k hk => by
                      rw [show k = 0 by omega, fu_s, dst_l])
                  · have hlt : j ≤ ys.length := by
                      rcases Nat.lt_or_ge (ys.length) (j) with z | z
                      · exact absurd (nI_lt z (by omega)) c51
                      · exact z
                    refine V_aload_n (pc := 54) X 2 dX9_distance_54 rfl ?_
                    refine V_get (pc := 55) X fl_X9_89 dX9_distance_55 mpt.k (mpt.f 930) ?_
                    refine V_iload_n (pc := 58) X 0 dX9_distance_58 rfl ?_
                    refine V_aload_n (pc := 59) X 2 dX9_distance_59 rfl ?_
                    refine V_get (pc := 60) X fl_X9_86 dX9_distance_60 mpt.k (mpt.f 929) ?_
                    refine V_iload_n (pc := 63) X 0 dX9_distance_63 rfl ?_
                    refine M_ald (pc := 64) X mpt ⟨by unfold isA; decide, by decide⟩ (by show _ < 201; omega) dX9_distance_64 ?_
                    rw [q1 j hlt]
                    refine M_ast (pc := 65) X mpt ⟨by unfold isA; decide, by decide⟩ (by show _ < 201; omega) dX9_distance_65 (fun h65 mp65 fm65 => ?_)
                    have gm65 := gmt.seq fm65
                    refine V_inc1 (pc := 66) X 0 [(2, .int _), (1, .int _), (0, .ref _)] dX9_distance_66 rfl (by decide) rfl ?_
                    rw [nI_1]
                    refine V_goto (pc := 69) X 44 dX9_distance_69 (by decide) ?_
                    exact ih3 (j + 1) (by omega) (by omega) _ _ mp65 gm65 (kw.nb (Or.inr rfl)) (fun k hk => (fu_i (by omega)).trans (q1 k hk)) (fun k hk => by
                      by_cases ek : k = j
                      · rw [ek, fu_s]
                      · exact (fu_j73 (by omega)).trans (q2 k (by omega)))
              exact key3 (ys.length + 2) 0 (by omega) (Nat.zero_le _) _ _ mps gms kz r1 (fun j y => absurd y (Nat.not_lt_zero _))
        exact key2 (xs.length + 1) 0 (by omega) (Nat.zero_le _) _ _ mpr gmr kz (fun j y => r1 j (by omega))
      · have hlt : i ≤ ys.length := by
          rcases Nat.lt_or_ge (ys.length) (i) with z | z
          · exact absurd (nI_lt z (by omega)) c14
          · exact z
        refine V_aload_n (pc := 17) X 1 dX9_distance_17 rfl ?_
        refine V_get (pc := 18) X fl_X9_86 dX9_distance_18 mpr.k (mpr.f 929) ?_
        refine V_iload_n (pc := 21) X 0 dX9_distance_21 rfl ?_
        refine V_iload_n (pc := 22) X 0 dX9_distance_22 rfl ?_
        refine M_ast (pc := 23) X mpr ⟨by unfold isA; decide, by decide⟩ (by show _ < 201; omega) dX9_distance_23 (fun h23 mp23 fm23 => ?_)
        have gm23 := gmr.seq fm23
        refine V_inc1 (pc := 24) X 0 [(1, .int _), (0, .ref _)] dX9_distance_24 rfl (by decide) rfl ?_
        rw [nI_1]
        refine V_goto (pc := 27) X 7 dX9_distance_27 (by decide) ?_
        exact ih (i + 1) (by omega) (by omega) _ _ mp23 gm23 (kz.nb (Or.inl rfl)) (fun j hj => by
          by_cases ej : j = i
          · rw [ej, fu_s]
          · exact (fu_j73 (by omega)).trans (r1 j (by omega)))
  exact key (ys.length + 2) 0 (by omega) (Nat.zero_le _) _ _ mp2 gm2 (KE.refl _ _) (fun j y => absurd y (Nat.not_lt_zero _))
theorem y_distanceByWays {E : EV} {h : AH} {q : Nat} {A : Nat → Nat} {F : MS'} {s : SQ} (mp : MP h q A F) (rm : RM (zT s) F s) (w : WS' s) (hH : (hop (zH s)).length ≤ 200) (hT : ∀ y ∈ zL s, (zT s y).1 < 127)  : Ct E yX9_distanceByWays cX9_distanceByWays 1 (some .int) 4 0 [.ref q] h (fun v h1 => v = some (.int (nI (dst (mt (zT s) (eX (zE s 0)) (eX (zE s 1))) (eX (zE s 0)).length (eX (zE s 1)).length))) ∧ MR h h1 q A s 0) noX := by
  refine Ct_of RX9 (by decide +kernel) rfl (Nat.le_of_ble_eq_true rfl) (fun Γ X nt Q hin => ?_)
  refine V_aload_n (pc := 0) X 0 dX9_distanceByWays_0 rfl ?_
  refine V_callV (pc := 1) X clk9 (by decide) mp.k _ (y_distance mp rm w hH hT) cw_X9_215 (Q.room (by decide) (by decide)) rfl (Nat.le_of_ble_eq_true rfl) rfl (by omega) dX9_distanceByWays_1 (fun _ _ z => z.elim) ?_
  rintro v1 h1 ⟨rfl, mr⟩
  simp only [Option.toList_some, List.cons_append, List.nil_append]
  refine V_iret (pc := 4) X Q rfl rfl dX9_distanceByWays_4 ?_
  exact ⟨rfl, mr⟩
