/-! THE MODEL'S OPERATIONS CROSS -/
theorem SL_cr {tb : Nat → Nat × Nat} {F F' : MS'} {i : Nat} {a b : SO} {w : Int32} (z : SL tb F i a) (pa : a.2.1 < 2 ^ 29) (h1 : F' 901 i = if 0 ≤ w then F 901 i else nI 0) (h2 : F' 902 i = w) (h3 : F' 903 i = F 903 i) (h4 : F' 904 i = F 904 i) (h5 : F' 905 i = F 905 i) (w1 : a.1 = 0 ∨ b.1 = 0 → w = F 902 i) (w2 : a.1 ≠ 0 → b.1 ≠ 0 → w = if (trb a b).1 = 0 then -1 else nI (trb a b).2.1) : SL tb F' i (trb a b) := by
  obtain ⟨z1, z2, z3, z4, z5⟩ := z
  have bnd := trf_bnd a b.1 b.2.1 b.2.2.2 z1
  have b1 : (trb a b).1 ≤ 2 := bnd.1
  have b2 : (trb a b).2.1 ≤ a.2.1 + 1 := bnd.2.1
  have b3 : (trb a b).2.2 = a.2.2 := bnd.2.2
  unfold SL
  rw [h1, h2, h3, h4, h5, b3]
  by_cases c : a.1 = 0 ∨ b.1 = 0
  · have et : trb a b = a := trb_n a b c
    rw [et, w1 c]
    refine ⟨z1, ?_, z3, z4, z5⟩
    by_cases ca : a.1 = 0
    · rw [z2, ca]; split <;> rfl
    · rw [z3 ca, if_pos (nI_pos' (by omega)), z2]
  · have ca : a.1 ≠ 0 := fun u => c (Or.inl u)
    have cb : b.1 ≠ 0 := fun u => c (Or.inr u)
    rw [w2 ca cb]
    by_cases ct : (trb a b).1 = 0
    · rw [if_pos ct, if_neg (by decide), ct]
      exact ⟨by decide, rfl, fun u => absurd rfl u, fun u => absurd u (by decide), z5⟩
    · rw [if_neg ct, if_pos (nI_pos' (by omega)), z2]
      have ek : (trb a b).1 = a.1 := by
        rcases (show b.1 = 1 ∨ b.1 ≠ 1 by omega) with u | u
        · rw [trb_1 ca u]; split <;> rfl
        · unfold trb trf at ct ⊢
          rw [if_neg (by omega), if_neg u] at ct ⊢
          split
          · rfl
          · next e1 =>
            rw [if_neg e1] at ct
            split
            · next e2 => rw [if_pos e2] at ct; exact absurd rfl ct
            · rfl
      rw [ek]
      exact ⟨z1, rfl, fun _ => rfl, z4, z5⟩
theorem m_crosses {E : EV} {h : AH} {q : Nat} {A : Nat → Nat} {F : MS'} (mp : MP h q A F) {tb : Nat → Nat × Nat} {i j : Nat} {a b : SO} (hi : i < 1401) (hj : j < 1401) (hij : i ≠ j) (sa : SL tb F i a) (sb : SL tb F j b) (pa : a.2.1 < 2 ^ 29) (pb : b.2.1 < 2 ^ 29) (ma : a.2.2.2 ≤ 1) (mb : b.2.2.2 ≤ 1) : Ct E yX9_crosses cX9_crosses 5 none 2 0 [.ref q, .int (nI i), .int (nI j)] h (fun v h1 => v = none ∧ ∃ F', MP h1 q A F' ∧ FM h h1 ∧ KO5 F F' ∧ SL tb F' i (trb a b) ∧ SL tb F' j (trb b a) ∧ ∀ k, k ≠ i → k ≠ j → OS F' k = OS F k) noX := by
  refine Ct_of RX9 (by decide +kernel) rfl (Nat.le_of_ble_eq_true rfl) (fun Γ X nt Q hin => ?_)
  have gm := FM.refl h
  have a1 := sa.1
  have b1 := sb.1
  refine V_aload_n (pc := 0) X 0 dX9_crosses_0 rfl ?_
  refine V_get (pc := 1) X fl_X9_7 dX9_crosses_1 mp.k (mp.f 901) ?_
  refine V_iload_n (pc := 4) X 1 dX9_crosses_4 rfl ?_
  refine M_ald (pc := 5) X mp ⟨by unfold isA; decide, by decide⟩ (by show _ < 1401; omega) dX9_crosses_5 ?_
  rw [sa.2.1]
  refine V_aload_n (pc := 6) X 0 dX9_crosses_6 rfl ?_
  refine V_get (pc := 7) X fl_X9_13 dX9_crosses_7 mp.k (mp.f 902) ?_
  refine V_iload_n (pc := 10) X 1 dX9_crosses_10 rfl ?_
  refine M_ald (pc := 11) X mp ⟨by unfold isA; decide, by decide⟩ (by show _ < 1401; omega) dX9_crosses_11 ?_
  refine V_aload_n (pc := 12) X 0 dX9_crosses_12 rfl ?_
  refine V_get (pc := 13) X fl_X9_7 dX9_crosses_13 mp.k (mp.f 901) ?_
  refine V_iload_n (pc := 16) X 2 dX9_crosses_16 rfl ?_
  refine M_ald (pc := 17) X mp ⟨by unfold isA; decide, by decide⟩ (by show _ < 1401; omega) dX9_crosses_17 ?_
  rw [sb.2.1]
  refine V_aload_n (pc := 18) X 0 dX9_crosses_18 rfl ?_
  refine V_get (pc := 19) X fl_X9_13 dX9_crosses_19 mp.k (mp.f 902) ?_
  refine V_iload_n (pc := 22) X 2 dX9_crosses_22 rfl ?_
  refine M_ald (pc := 23) X mp ⟨by unfold isA; decide, by decide⟩ (by show _ < 1401; omega) dX9_crosses_23 ?_
  refine V_aload_n (pc := 24) X 0 dX9_crosses_24 rfl ?_
  refine V_get (pc := 25) X fl_X9_22 dX9_crosses_25 mp.k (mp.f 905) ?_
  refine V_iload_n (pc := 28) X 2 dX9_crosses_28 rfl ?_
  refine M_ald (pc := 29) X mp ⟨by unfold isA; decide, by decide⟩ (by show _ < 1401; omega) dX9_crosses_29 ?_
  rw [sb.2.2.2.2]
  refine V_if_ne (pc := 30) X 37 dX9_crosses_30 (by decide) (fun c30 => ?_) (fun c30 => ?_)
  · have k30 : ¬ b.2.2.2 = 0 := fun y => c30 (by rw [y]; rfl)
    have fl30 : (nI 0 : Int32) = if b.2.2.2 = 0 then 1 else 0 := (if_neg k30).symm
    refine V_iconst (pc := 37) (v := 0) X dX9_crosses_37 (by decide) ?_
    show V _ _ _ _ _ _ (Value.int (nI 0) :: _)
    rw [fl30]
    refine V_callS (pc := 38) X _ (m_moved (a := a) (b := b) sa.1 sb.1 pa pb sa.2.2.1 sb.2.2.1) cw_X9_100 (Q.room (by decide) (by decide)) rfl (Nat.le_of_ble_eq_true rfl) rfl (by omega) dX9_crosses_38 (fun _ _ z => z.elim) ?_
    rintro v38 h38 ⟨⟨w, rfl, w1, w2⟩, e38⟩
    rw [e38]
    simp only [Option.toList_some, List.cons_append, List.nil_append]
    refine V_istore_n (pc := 41) X [(3, .int _), (0, .ref _), (1, .int _), (2, .int _)] dX9_crosses_41 rfl (by decide) rfl ?_
    refine V_aload_n (pc := 42) X 1 dX9_crosses_42 rfl ?_
    refine V_get (pc := 43) X fl_X9_7 dX9_crosses_43 mp.k (mp.f 901) ?_
    refine V_iload_n (pc := 46) X 3 dX9_crosses_46 rfl ?_
    refine M_ald (pc := 47) X mp ⟨by unfold isA; decide, by decide⟩ (by show _ < 1401; omega) dX9_crosses_47 ?_
    rw [sb.2.1]
    refine V_aload_n (pc := 48) X 1 dX9_crosses_48 rfl ?_
    refine V_get (pc := 49) X fl_X9_13 dX9_crosses_49 mp.k (mp.f 902) ?_
    refine V_iload_n (pc := 52) X 3 dX9_crosses_52 rfl ?_
    refine M_ald (pc := 53) X mp ⟨by unfold isA; decide, by decide⟩ (by show _ < 1401; omega) dX9_crosses_53 ?_
    refine V_aload_n (pc := 54) X 1 dX9_crosses_54 rfl ?_
    refine V_get (pc := 55) X fl_X9_7 dX9_crosses_55 mp.k (mp.f 901) ?_
    refine V_iload_n (pc := 58) X 2 dX9_crosses_58 rfl ?_
    refine M_ald (pc := 59) X mp ⟨by unfold isA; decide, by decide⟩ (by show _ < 1401; omega) dX9_crosses_59 ?_
    rw [sa.2.1]
    refine V_aload_n (pc := 60) X 1 dX9_crosses_60 rfl ?_
    refine V_get (pc := 61) X fl_X9_13 dX9_crosses_61 mp.k (mp.f 902) ?_
    refine V_iload_n (pc := 64) X 2 dX9_crosses_64 rfl ?_
    refine M_ald (pc := 65) X mp ⟨by unfold isA; decide, by decide⟩ (by show _ < 1401; omega) dX9_crosses_65 ?_
    refine V_aload_n (pc := 66) X 1 dX9_crosses_66 rfl ?_
    refine V_get (pc := 67) X fl_X9_22 dX9_crosses_67 mp.k (mp.f 905) ?_
    refine V_iload_n (pc := 70) X 2 dX9_crosses_70 rfl ?_
    refine M_ald (pc := 71) X mp ⟨by unfold isA; decide, by decide⟩ (by show _ < 1401; omega) dX9_crosses_71 ?_
    rw [sa.2.2.2.2]
    refine V_if_ne (pc := 72) X 79 dX9_crosses_72 (by decide) (fun c72 => ?_) (fun c72 => ?_)
    · have k72 : ¬ a.2.2.2 = 0 := fun y => c72 (by rw [y]; rfl)
      have fl72 : (nI 0 : Int32) = if a.2.2.2 = 0 then 1 else 0 := (if_neg k72).symm
      refine V_iconst (pc := 79) (v := 0) X dX9_crosses_79 (by decide) ?_
      show V _ _ _ _ _ _ (Value.int (nI 0) :: _)
      rw [fl72]
      refine V_callS (pc := 80) X _ (m_moved (a := b) (b := a) sb.1 sa.1 pb pa sb.2.2.1 sa.2.2.1) cw_X9_100 (Q.room (by decide) (by decide)) rfl (Nat.le_of_ble_eq_true rfl) rfl (by omega) dX9_crosses_80 (fun _ _ z => z.elim) ?_
      rintro v80 h80 ⟨⟨w', rfl, w3, w4⟩, e80⟩
      rw [e80]
      simp only [Option.toList_some, List.cons_append, List.nil_append]
      refine V_istore (pc := 83) X [(4, .int _), (3, .int _), (0, .ref _), (1, .int _), (2, .int _)] dX9_crosses_83 (by decide) rfl ?_
      refine V_iload_n (pc := 85) X 1 dX9_crosses_85 rfl ?_
      refine V_if_ge (pc := 86) X 96 dX9_crosses_86 (by decide) (fun c86 => ?_) (fun c86 => ?_)
      · refine V_iload (pc := 96) X 0 dX9_crosses_96 rfl ?_
        refine V_if_ge (pc := 98) X 108 dX9_crosses_98 (by decide) (fun c98 => ?_) (fun c98 => ?_)
        · refine V_aload_n (pc := 108) X 2 dX9_crosses_108 rfl ?_
          refine V_get (pc := 109) X fl_X9_13 dX9_crosses_109 mp.k (mp.f 902) ?_
          refine V_iload_n (pc := 112) X 3 dX9_crosses_112 rfl ?_
          refine V_iload_n (pc := 113) X 1 dX9_crosses_113 rfl ?_
          refine M_ast (pc := 114) X mp ⟨by unfold isA; decide, by decide⟩ (by show _ < 1401; omega) dX9_crosses_114 (fun h114 mp114 fm114 => ?_)
          have gm114 := gm.seq fm114
          refine V_aload_n (pc := 115) X 2 dX9_crosses_115 rfl ?_
          refine V_get (pc := 116) X fl_X9_13 dX9_crosses_116 mp114.k (mp114.f 902) ?_
          refine V_iload_n (pc := 119) X 4 dX9_crosses_119 rfl ?_
          refine V_iload (pc := 120) X 0 dX9_crosses_120 rfl ?_
          refine M_ast (pc := 122) X mp114 ⟨by unfold isA; decide, by decide⟩ (by show _ < 1401; omega) dX9_crosses_122 (fun h122 mp122 fm122 => ?_)
          have gm122 := gm114.seq fm122
          refine V_vret (pc := 123) X Q rfl dX9_crosses_123 ?_
          have hji : ¬ j = i := fun u => hij u.symm
          refine ⟨rfl, _, mp122, gm122, fun x y hxy => ?_, ?_, ?_, fun k k1 k2 => ?_⟩
          · have n1 : x ≠ 901 := by omega
            have n2 : x ≠ 902 := by omega
            simp [fu, n1, n2]
          · refine SL_cr sa pa ?_ ?_ ?_ ?_ ?_ w1 w2
            · simp [fu, hij, hji, c86]; try rfl
            · simp [fu, hij, hji]
            · simp [fu]
            · simp [fu]
            · simp [fu]
          · refine SL_cr sb pb ?_ ?_ ?_ ?_ ?_ w3 w4
            · simp [fu, hij, hji, c98]; try rfl
            · simp [fu, hij, hji]
            · simp [fu]
            · simp [fu]
            · simp [fu]
          · unfold OS
            simp [fu, k1, k2]
        · refine V_aload_n (pc := 101) X 2 dX9_crosses_101 rfl ?_
          refine V_get (pc := 102) X fl_X9_7 dX9_crosses_102 mp.k (mp.f 901) ?_
          refine V_iload_n (pc := 105) X 4 dX9_crosses_105 rfl ?_
          refine V_iconst (pc := 106) (v := 0) X dX9_crosses_106 (by decide) ?_
          show V _ _ _ _ _ _ (Value.int (nI 0) :: _)
          refine M_ast (pc := 107) X mp ⟨by unfold isA; decide, by decide⟩ (by show _ < 1401; omega) dX9_crosses_107 (fun h107 mp107 fm107 => ?_)
          have gm107 := gm.seq fm107
          refine V_aload_n (pc := 108) X 2 dX9_crosses_108 rfl ?_
          refine V_get (pc := 109) X fl_X9_13 dX9_crosses_109 mp107.k (mp107.f 902) ?_
          refine V_iload_n (pc := 112) X 3 dX9_crosses_112 rfl ?_
          refine V_iload_n (pc := 113) X 1 dX9_crosses_113 rfl ?_
          refine M_ast (pc := 114) X mp107 ⟨by unfold isA; decide, by decide⟩ (by show _ < 1401; omega) dX9_crosses_114 (fun h114 mp114 fm114 => ?_)
          have gm114 := gm107.seq fm114
          refine V_aload_n (pc := 115) X 2 dX9_crosses_115 rfl ?_
          refine V_get (pc := 116) X fl_X9_13 dX9_crosses_116 mp114.k (mp114.f 902) ?_
          refine V_iload_n (pc := 119) X 4 dX9_crosses_119 rfl ?_
          refine V_iload (pc := 120) X 0 dX9_crosses_120 rfl ?_
          refine M_ast (pc := 122) X mp114 ⟨by unfold isA; decide, by decide⟩ (by show _ < 1401; omega) dX9_crosses_122 (fun h122 mp122 fm122 => ?_)
          have gm122 := gm114.seq fm122
          refine V_vret (pc := 123) X Q rfl dX9_crosses_123 ?_
          have hji : ¬ j = i := fun u => hij u.symm
          refine ⟨rfl, _, mp122, gm122, fun x y hxy => ?_, ?_, ?_, fun k k1 k2 => ?_⟩
          · have n1 : x ≠ 901 := by omega
            have n2 : x ≠ 902 := by omega
            simp [fu, n1, n2]
          · refine SL_cr sa pa ?_ ?_ ?_ ?_ ?_ w1 w2
            · simp [fu, hij, hji, c86]; try rfl
            · simp [fu, hij, hji]
            · simp [fu]
            · simp [fu]
            · simp [fu]
          · refine SL_cr sb pb ?_ ?_ ?_ ?_ ?_ w3 w4
            · simp [fu, hij, hji, c98]; try rfl
            · simp [fu, hij, hji]
            · simp [fu]
            · simp [fu]
            · simp [fu]
          · unfold OS
            simp [fu, k1, k2]
      · refine V_aload_n (pc := 89) X 2 dX9_crosses_89 rfl ?_
        refine V_get (pc := 90) X fl_X9_7 dX9_crosses_90 mp.k (mp.f 901) ?_
        refine V_iload_n (pc := 93) X 3 dX9_crosses_93 rfl ?_
        refine V_iconst (pc := 94) (v := 0) X dX9_crosses_94 (by decide) ?_
        show V _ _ _ _ _ _ (Value.int (nI 0) :: _)
        refine M_ast (pc := 95) X mp ⟨by unfold isA; decide, by decide⟩ (by show _ < 1401; omega) dX9_crosses_95 (fun h95 mp95 fm95 => ?_)
        have gm95 := gm.seq fm95
        refine V_iload (pc := 96) X 0 dX9_crosses_96 rfl ?_
        refine V_if_ge (pc := 98) X 108 dX9_crosses_98 (by decide) (fun c98 => ?_) (fun c98 => ?_)
        · refine V_aload_n (pc := 108) X 2 dX9_crosses_108 rfl ?_
          refine V_get (pc := 109) X fl_X9_13 dX9_crosses_109 mp95.k (mp95.f 902) ?_
          refine V_iload_n (pc := 112) X 3 dX9_crosses_112 rfl ?_
          refine V_iload_n (pc := 113) X 1 dX9_crosses_113 rfl ?_
          refine M_ast (pc := 114) X mp95 ⟨by unfold isA; decide, by decide⟩ (by show _ < 1401; omega) dX9_crosses_114 (fun h114 mp114 fm114 => ?_)
          have gm114 := gm95.seq fm114
          refine V_aload_n (pc := 115) X 2 dX9_crosses_115 rfl ?_
          refine V_get (pc := 116) X fl_X9_13 dX9_crosses_116 mp114.k (mp114.f 902) ?_
          refine V_iload_n (pc := 119) X 4 dX9_crosses_119 rfl ?_
          refine V_iload (pc := 120) X 0 dX9_crosses_120 rfl ?_
          refine M_ast (pc := 122) X mp114 ⟨by unfold isA; decide, by decide⟩ (by show _ < 1401; omega) dX9_crosses_122 (fun h122 mp122 fm122 => ?_)
          have gm122 := gm114.seq fm122
          refine V_vret (pc := 123) X Q rfl dX9_crosses_123 ?_
          have hji : ¬ j = i := fun u => hij u.symm
          refine ⟨rfl, _, mp122, gm122, fun x y hxy => ?_, ?_, ?_, fun k k1 k2 => ?_⟩
          · have n1 : x ≠ 901 := by omega
            have n2 : x ≠ 902 := by omega
            simp [fu, n1, n2]
          · refine SL_cr sa pa ?_ ?_ ?_ ?_ ?_ w1 w2
            · simp [fu, hij, hji, c86]; try rfl
            · simp [fu, hij, hji]
            · simp [fu]
            · simp [fu]
            · simp [fu]
          · refine SL_cr sb pb ?_ ?_ ?_ ?_ ?_ w3 w4
            · simp [fu, hij, hji, c98]; try rfl
            · simp [fu, hij, hji]
            · simp [fu]
            · simp [fu]
            · simp [fu]
          · unfold OS
            simp [fu, k1, k2]
        · refine V_aload_n (pc := 101) X 2 dX9_crosses_101 rfl ?_
          refine V_get (pc := 102) X fl_X9_7 dX9_crosses_102 mp95.k (mp95.f 901) ?_
          refine V_iload_n (pc := 105) X 4 dX9_crosses_105 rfl ?_
          refine V_iconst (pc := 106) (v := 0) X dX9_crosses_106 (by decide) ?_
          show V _ _ _ _ _ _ (Value.int (nI 0) :: _)
          refine M_ast (pc := 107) X mp95 ⟨by unfold isA; decide, by decide⟩ (by show _ < 1401; omega) dX9_crosses_107 (fun h107 mp107 fm107 => ?_)
          have gm107 := gm95.seq fm107
          refine V_aload_n (pc := 108) X 2 dX9_crosses_108 rfl ?_
          refine V_get (pc := 109) X fl_X9_13 dX9_crosses_109 mp107.k (mp107.f 902) ?_
          refine V_iload_n (pc := 112) X 3 dX9_crosses_112 rfl ?_
          refine V_iload_n (pc := 113) X 1 dX9_crosses_113 rfl ?_
          refine M_ast (pc := 114) X mp107 ⟨by unfold isA; decide, by decide⟩ (by show _ < 1401; omega) dX9_crosses_114 (fun h114 mp114 fm114 => ?_)
          have gm114 := gm107.seq fm114
          refine V_aload_n (pc := 115) X 2 dX9_crosses_115 rfl ?_
          refine V_get (pc := 116) X fl_X9_13 dX9_crosses_116 mp114.k (mp114.f 902) ?_
          refine V_iload_n (pc := 119) X 4 dX9_crosses_119 rfl ?_
          refine V_iload (pc := 120) X 0 dX9_crosses_120 rfl ?_
          refine M_ast (pc := 122) X mp114 ⟨by unfold isA; decide, by decide⟩ (by show _ < 1401; omega) dX9_crosses_122 (fun h122 mp122 fm122 => ?_)
          have gm122 := gm114.seq fm122
          refine V_vret (pc := 123) X Q rfl dX9_crosses_123 ?_
          have hji : ¬ j = i := fun u => hij u.symm
          refine ⟨rfl, _, mp122, gm122, fun x y hxy => ?_, ?_, ?_, fun k k1 k2 => ?_⟩
          · have n1 : x ≠ 901 := by omega
            have n2 : x ≠ 902 := by omega
            simp [fu, n1, n2]
          · refine SL_cr sa pa ?_ ?_ ?_ ?_ ?_ w1 w2
            · simp [fu, hij, hji, c86]; try rfl
            · simp [fu, hij, hji]
            · simp [fu]
            · simp [fu]
            · simp [fu]
          · refine SL_cr sb pb ?_ ?_ ?_ ?_ ?_ w3 w4
            · simp [fu, hij, hji, c98]; try rfl
            · simp [fu, hij, hji]
            · simp [fu]
            · simp [fu]
            · simp [fu]
          · unfold OS
            simp [fu, k1, k2]
    · have k72 : a.2.2.2 = 0 := (nI_eq (b := 0) (by omega) (by decide)).mp c72
      have fl72 : (nI 1 : Int32) = if a.2.2.2 = 0 then 1 else 0 := (if_pos k72).symm
      refine V_iconst (pc := 75) (v := 1) X dX9_crosses_75 (by decide) ?_
      show V _ _ _ _ _ _ (Value.int (nI 1) :: _)
      refine V_goto (pc := 76) X 80 dX9_crosses_76 (by decide) ?_
      rw [fl72]
      refine V_callS (pc := 80) X _ (m_moved (a := b) (b := a) sb.1 sa.1 pb pa sb.2.2.1 sa.2.2.1) cw_X9_100 (Q.room (by decide) (by decide)) rfl (Nat.le_of_ble_eq_true rfl) rfl (by omega) dX9_crosses_80 (fun _ _ z => z.elim) ?_
      rintro v80 h80 ⟨⟨w', rfl, w3, w4⟩, e80⟩
      rw [e80]
      simp only [Option.toList_some, List.cons_append, List.nil_append]
      refine V_istore (pc := 83) X [(4, .int _), (3, .int _), (0, .ref _), (1, .int _), (2, .int _)] dX9_crosses_83 (by decide) rfl ?_
      refine V_iload_n (pc := 85) X 1 dX9_crosses_85 rfl ?_
      refine V_if_ge (pc := 86) X 96 dX9_crosses_86 (by decide) (fun c86 => ?_) (fun c86 => ?_)
      · refine V_iload (pc := 96) X 0 dX9_crosses_96 rfl ?_
        refine V_if_ge (pc := 98) X 108 dX9_crosses_98 (by decide) (fun c98 => ?_) (fun c98 => ?_)
        · refine V_aload_n (pc := 108) X 2 dX9_crosses_108 rfl ?_
          refine V_get (pc := 109) X fl_X9_13 dX9_crosses_109 mp.k (mp.f 902) ?_
          refine V_iload_n (pc := 112) X 3 dX9_crosses_112 rfl ?_
          refine V_iload_n (pc := 113) X 1 dX9_crosses_113 rfl ?_
          refine M_ast (pc := 114) X mp ⟨by unfold isA; decide, by decide⟩ (by show _ < 1401; omega) dX9_crosses_114 (fun h114 mp114 fm114 => ?_)
          have gm114 := gm.seq fm114
          refine V_aload_n (pc := 115) X 2 dX9_crosses_115 rfl ?_
          refine V_get (pc := 116) X fl_X9_13 dX9_crosses_116 mp114.k (mp114.f 902) ?_
          refine V_iload_n (pc := 119) X 4 dX9_crosses_119 rfl ?_
          refine V_iload (pc := 120) X 0 dX9_crosses_120 rfl ?_
          refine M_ast (pc := 122) X mp114 ⟨by unfold isA; decide, by decide⟩ (by show _ < 1401; omega) dX9_crosses_122 (fun h122 mp122 fm122 => ?_)
          have gm122 := gm114.seq fm122
          refine V_vret (pc := 123) X Q rfl dX9_crosses_123 ?_
          have hji : ¬ j = i := fun u => hij u.symm
          refine ⟨rfl, _, mp122, gm122, fun x y hxy => ?_, ?_, ?_, fun k k1 k2 => ?_⟩
          · have n1 : x ≠ 901 := by omega
            have n2 : x ≠ 902 := by omega
            simp [fu, n1, n2]
          · refine SL_cr sa pa ?_ ?_ ?_ ?_ ?_ w1 w2
            · simp [fu, hij, hji, c86]; try rfl
            · simp [fu, hij, hji]
            · simp [fu]
            · simp [fu]
            · simp [fu]
          · refine SL_cr sb pb ?_ ?_ ?_ ?_ ?_ w3 w4
            · simp [fu, hij, hji, c98]; try rfl
            · simp [fu, hij, hji]
            · simp [fu]
            · simp [fu]
            · simp [fu]
          · unfold OS
            simp [fu, k1, k2]
        · refine V_aload_n (pc := 101) X 2 dX9_crosses_101 rfl ?_
          refine V_get (pc := 102) X fl_X9_7 dX9_crosses_102 mp.k (mp.f 901) ?_
          refine V_iload_n (pc := 105) X 4 dX9_crosses_105 rfl ?_
          refine V_iconst (pc := 106) (v := 0) X dX9_crosses_106 (by decide) ?_
          show V _ _ _ _ _ _ (Value.int (nI 0) :: _)
          refine M_ast (pc := 107) X mp ⟨by unfold isA; decide, by decide⟩ (by show _ < 1401; omega) dX9_crosses_107 (fun h107 mp107 fm107 => ?_)
          have gm107 := gm.seq fm107
          refine V_aload_n (pc := 108) X 2 dX9_crosses_108 rfl ?_
          refine V_get (pc := 109) X fl_X9_13 dX9_crosses_109 mp107.k (mp107.f 902) ?_
          refine V_iload_n (pc := 112) X 3 dX9_crosses_112 rfl ?_
          refine V_iload_n (pc := 113) X 1 dX9_crosses_113 rfl ?_
          refine M_ast (pc := 114) X mp107 ⟨by unfold isA; decide, by decide⟩ (by show _ < 1401; omega) dX9_crosses_114 (fun h114 mp114 fm114 => ?_)
          have gm114 := gm107.seq fm114
          refine V_aload_n (pc := 115) X 2 dX9_crosses_115 rfl ?_
          refine V_get (pc := 116) X fl_X9_13 dX9_crosses_116 mp114.k (mp114.f 902) ?_
          refine V_iload_n (pc := 119) X 4 dX9_crosses_119 rfl ?_
          refine V_iload (pc := 120) X 0 dX9_crosses_120 rfl ?_
          refine M_ast (pc := 122) X mp114 ⟨by unfold isA; decide, by decide⟩ (by show _ < 1401; omega) dX9_crosses_122 (fun h122 mp122 fm122 => ?_)
          have gm122 := gm114.seq fm122
          refine V_vret (pc := 123) X Q rfl dX9_crosses_123 ?_
          have hji : ¬ j = i := fun u => hij u.symm
          refine ⟨rfl, _, mp122, gm122, fun x y hxy => ?_, ?_, ?_, fun k k1 k2 => ?_⟩
          · have n1 : x ≠ 901 := by omega
            have n2 : x ≠ 902 := by omega
            simp [fu, n1, n2]
          · refine SL_cr sa pa ?_ ?_ ?_ ?_ ?_ w1 w2
            · simp [fu, hij, hji, c86]; try rfl
            · simp [fu, hij, hji]
            · simp [fu]
            · simp [fu]
            · simp [fu]
          · refine SL_cr sb pb ?_ ?_ ?_ ?_ ?_ w3 w4
            · simp [fu, hij, hji, c98]; try rfl
            · simp [fu, hij, hji]
            · simp [fu]
            · simp [fu]
            · simp [fu]
          · unfold OS
            simp [fu, k1, k2]
      · refine V_aload_n (pc := 89) X 2 dX9_crosses_89 rfl ?_
        refine V_get (pc := 90) X fl_X9_7 dX9_crosses_90 mp.k (mp.f 901) ?_
        refine V_iload_n (pc := 93) X 3 dX9_crosses_93 rfl ?_
        refine V_iconst (pc := 94) (v := 0) X dX9_crosses_94 (by decide) ?_
        show V _ _ _ _ _ _ (Value.int (nI 0) :: _)
        refine M_ast (pc := 95) X mp ⟨by unfold isA; decide, by decide⟩ (by show _ < 1401; omega) dX9_crosses_95 (fun h95 mp95 fm95 => ?_)
        have gm95 := gm.seq fm95
        refine V_iload (pc := 96) X 0 dX9_crosses_96 rfl ?_
        refine V_if_ge (pc := 98) X 108 dX9_crosses_98 (by decide) (fun c98 => ?_) (fun c98 => ?_)
        · refine V_aload_n (pc := 108) X 2 dX9_crosses_108 rfl ?_
          refine V_get (pc := 109) X fl_X9_13 dX9_crosses_109 mp95.k (mp95.f 902) ?_
          refine V_iload_n (pc := 112) X 3 dX9_crosses_112 rfl ?_
          refine V_iload_n (pc := 113) X 1 dX9_crosses_113 rfl ?_
          refine M_ast (pc := 114) X mp95 ⟨by unfold isA; decide, by decide⟩ (by show _ < 1401; omega) dX9_crosses_114 (fun h114 mp114 fm114 => ?_)
          have gm114 := gm95.seq fm114
          refine V_aload_n (pc := 115) X 2 dX9_crosses_115 rfl ?_
          refine V_get (pc := 116) X fl_X9_13 dX9_crosses_116 mp114.k (mp114.f 902) ?_
          refine V_iload_n (pc := 119) X 4 dX9_crosses_119 rfl ?_
          refine V_iload (pc := 120) X 0 dX9_crosses_120 rfl ?_
          refine M_ast (pc := 122) X mp114 ⟨by unfold isA; decide, by decide⟩ (by show _ < 1401; omega) dX9_crosses_122 (fun h122 mp122 fm122 => ?_)
          have gm122 := gm114.seq fm122
          refine V_vret (pc := 123) X Q rfl dX9_crosses_123 ?_
          have hji : ¬ j = i := fun u => hij u.symm
          refine ⟨rfl, _, mp122, gm122, fun x y hxy => ?_, ?_, ?_, fun k k1 k2 => ?_⟩
          · have n1 : x ≠ 901 := by omega
            have n2 : x ≠ 902 := by omega
            simp [fu, n1, n2]
          · refine SL_cr sa pa ?_ ?_ ?_ ?_ ?_ w1 w2
            · simp [fu, hij, hji, c86]; try rfl
            · simp [fu, hij, hji]
            · simp [fu]
            · simp [fu]
            · simp [fu]
          · refine SL_cr sb pb ?_ ?_ ?_ ?_ ?_ w3 w4
            · simp [fu, hij, hji, c98]; try rfl
            · simp [fu, hij, hji]
            · simp [fu]
            · simp [fu]
            · simp [fu]
          · unfold OS
            simp [fu, k1, k2]
        · refine V_aload_n (pc := 101) X 2 dX9_crosses_101 rfl ?_
          refine V_get (pc := 102) X fl_X9_7 dX9_crosses_102 mp95.k (mp95.f 901) ?_
          refine V_iload_n (pc := 105) X 4 dX9_crosses_105 rfl ?_
          refine V_iconst (pc := 106) (v := 0) X dX9_crosses_106 (by decide) ?_
          show V _ _ _ _ _ _ (Value.int (nI 0) :: _)
          refine M_ast (pc := 107) X mp95 ⟨by unfold isA; decide, by decide⟩ (by show _ < 1401; omega) dX9_crosses_107 (fun h107 mp107 fm107 => ?_)
          have gm107 := gm95.seq fm107
          refine V_aload_n (pc := 108) X 2 dX9_crosses_108 rfl ?_
          refine V_get (pc := 109) X fl_X9_13 dX9_crosses_109 mp107.k (mp107.f 902) ?_
          refine V_iload_n (pc := 112) X 3 dX9_crosses_112 rfl ?_
          refine V_iload_n (pc := 113) X 1 dX9_crosses_113 rfl ?_
          refine M_ast (pc := 114) X mp107 ⟨by unfold isA; decide, by decide⟩ (by show _ < 1401; omega) dX9_crosses_114 (fun h114 mp114 fm114 => ?_)
          have gm114 := gm107.seq fm114
          refine V_aload_n (pc := 115) X 2 dX9_crosses_115 rfl ?_
          refine V_get (pc := 116) X fl_X9_13 dX9_crosses_116 mp114.k (mp114.f 902) ?_
          refine V_iload_n (pc := 119) X 4 dX9_crosses_119 rfl ?_
          refine V_iload (pc := 120) X 0 dX9_crosses_120 rfl ?_
          refine M_ast (pc := 122) X mp114 ⟨by unfold isA; decide, by decide⟩ (by show _ < 1401; omega) dX9_crosses_122 (fun h122 mp122 fm122 => ?_)
          have gm122 := gm114.seq fm122
          refine V_vret (pc := 123) X Q rfl dX9_crosses_123 ?_
          have hji : ¬ j = i := fun u => hij u.symm
          refine ⟨rfl, _, mp122, gm122, fun x y hxy => ?_, ?_, ?_, fun k k1 k2 => ?_⟩
          · have n1 : x ≠ 901 := by omega
            have n2 : x ≠ 902 := by omega
            simp [fu, n1, n2]
          · refine SL_cr sa pa ?_ ?_ ?_ ?_ ?_ w1 w2
            · simp [fu, hij, hji, c86]; try rfl
            · simp [fu, hij, hji]
            · simp [fu]
            · simp [fu]
            · simp [fu]
          · refine SL_cr sb pb ?_ ?_ ?_ ?_ ?_ w3 w4
            · simp [fu, hij, hji, c98]; try rfl
            · simp [fu, hij, hji]
            · simp [fu]
            · simp [fu]
            · simp [fu]
          · unfold OS
            simp [fu, k1, k2]
  · have k30 : b.2.2.2 = 0 := (nI_eq (b := 0) (by omega) (by decide)).mp c30
    have fl30 : (nI 1 : Int32) = if b.2.2.2 = 0 then 1 else 0 := (if_pos k30).symm
    refine V_iconst (pc := 33) (v := 1) X dX9_crosses_33 (by decide) ?_
    show V _ _ _ _ _ _ (Value.int (nI 1) :: _)
    refine V_goto (pc := 34) X 38 dX9_crosses_34 (by decide) ?_
    rw [fl30]
    refine V_callS (pc := 38) X _ (m_moved (a := a) (b := b) sa.1 sb.1 pa pb sa.2.2.1 sb.2.2.1) cw_X9_100 (Q.room (by decide) (by decide)) rfl (Nat.le_of_ble_eq_true rfl) rfl (by omega) dX9_crosses_38 (fun _ _ z => z.elim) ?_
    rintro v38 h38 ⟨⟨w, rfl, w1, w2⟩, e38⟩
    rw [e38]
    simp only [Option.toList_some, List.cons_append, List.nil_append]
    refine V_istore_n (pc := 41) X [(3, .int _), (0, .ref _), (1, .int _), (2, .int _)] dX9_crosses_41 rfl (by decide) rfl ?_
    refine V_aload_n (pc := 42) X 1 dX9_crosses_42 rfl ?_
    refine V_get (pc := 43) X fl_X9_7 dX9_crosses_43 mp.k (mp.f 901) ?_
    refine V_iload_n (pc := 46) X 3 dX9_crosses_46 rfl ?_
    refine M_ald (pc := 47) X mp ⟨by unfold isA; decide, by decide⟩ (by show _ < 1401; omega) dX9_crosses_47 ?_
    rw [sb.2.1]
    refine V_aload_n (pc := 48) X 1 dX9_crosses_48 rfl ?_
    refine V_get (pc := 49) X fl_X9_13 dX9_crosses_49 mp.k (mp.f 902) ?_
    refine V_iload_n (pc := 52) X 3 dX9_crosses_52 rfl ?_
    refine M_ald (pc := 53) X mp ⟨by unfold isA; decide, by decide⟩ (by show _ < 1401; omega) dX9_crosses_53 ?_
    refine V_aload_n (pc := 54) X 1 dX9_crosses_54 rfl ?_
    refine V_get (pc := 55) X fl_X9_7 dX9_crosses_55 mp.k (mp.f 901) ?_
    refine V_iload_n (pc := 58) X 2 dX9_crosses_58 rfl ?_
    refine M_ald (pc := 59) X mp ⟨by unfold isA; decide, by decide⟩ (by show _ < 1401; omega) dX9_crosses_59 ?_
    rw [sa.2.1]
    refine V_aload_n (pc := 60) X 1 dX9_crosses_60 rfl ?_
    refine V_get (pc := 61) X fl_X9_13 dX9_crosses_61 mp.k (mp.f 902) ?_
    refine V_iload_n (pc := 64) X 2 dX9_crosses_64 rfl ?_
    refine M_ald (pc := 65) X mp ⟨by unfold isA; decide, by decide⟩ (by show _ < 1401; omega) dX9_crosses_65 ?_
    refine V_aload_n (pc := 66) X 1 dX9_crosses_66 rfl ?_
    refine V_get (pc := 67) X fl_X9_22 dX9_crosses_67 mp.k (mp.f 905) ?_
    refine V_iload_n (pc := 70) X 2 dX9_crosses_70 rfl ?_
    refine M_ald (pc := 71) X mp ⟨by unfold isA; decide, by decide⟩ (by show _ < 1401; omega) dX9_crosses_71 ?_
    rw [sa.2.2.2.2]
    refine V_if_ne (pc := 72) X 79 dX9_crosses_72 (by decide) (fun c72 => ?_) (fun c72 => ?_)
    · have k72 : ¬ a.2.2.2 = 0 := fun y => c72 (by rw [y]; rfl)
      have fl72 : (nI 0 : Int32) = if a.2.2.2 = 0 then 1 else 0 := (if_neg k72).symm
      refine V_iconst (pc := 79) (v := 0) X dX9_crosses_79 (by decide) ?_
      show V _ _ _ _ _ _ (Value.int (nI 0) :: _)
      rw [fl72]
      refine V_callS (pc := 80) X _ (m_moved (a := b) (b := a) sb.1 sa.1 pb pa sb.2.2.1 sa.2.2.1) cw_X9_100 (Q.room (by decide) (by decide)) rfl (Nat.le_of_ble_eq_true rfl) rfl (by omega) dX9_crosses_80 (fun _ _ z => z.elim) ?_
      rintro v80 h80 ⟨⟨w', rfl, w3, w4⟩, e80⟩
      rw [e80]
      simp only [Option.toList_some, List.cons_append, List.nil_append]
      refine V_istore (pc := 83) X [(4, .int _), (3, .int _), (0, .ref _), (1, .int _), (2, .int _)] dX9_crosses_83 (by decide) rfl ?_
      refine V_iload_n (pc := 85) X 1 dX9_crosses_85 rfl ?_
      refine V_if_ge (pc := 86) X 96 dX9_crosses_86 (by decide) (fun c86 => ?_) (fun c86 => ?_)
      · refine V_iload (pc := 96) X 0 dX9_crosses_96 rfl ?_
        refine V_if_ge (pc := 98) X 108 dX9_crosses_98 (by decide) (fun c98 => ?_) (fun c98 => ?_)
        · refine V_aload_n (pc := 108) X 2 dX9_crosses_108 rfl ?_
          refine V_get (pc := 109) X fl_X9_13 dX9_crosses_109 mp.k (mp.f 902) ?_
          refine V_iload_n (pc := 112) X 3 dX9_crosses_112 rfl ?_
          refine V_iload_n (pc := 113) X 1 dX9_crosses_113 rfl ?_
          refine M_ast (pc := 114) X mp ⟨by unfold isA; decide, by decide⟩ (by show _ < 1401; omega) dX9_crosses_114 (fun h114 mp114 fm114 => ?_)
          have gm114 := gm.seq fm114
          refine V_aload_n (pc := 115) X 2 dX9_crosses_115 rfl ?_
          refine V_get (pc := 116) X fl_X9_13 dX9_crosses_116 mp114.k (mp114.f 902) ?_
          refine V_iload_n (pc := 119) X 4 dX9_crosses_119 rfl ?_
          refine V_iload (pc := 120) X 0 dX9_crosses_120 rfl ?_
          refine M_ast (pc := 122) X mp114 ⟨by unfold isA; decide, by decide⟩ (by show _ < 1401; omega) dX9_crosses_122 (fun h122 mp122 fm122 => ?_)
          have gm122 := gm114.seq fm122
          refine V_vret (pc := 123) X Q rfl dX9_crosses_123 ?_
          have hji : ¬ j = i := fun u => hij u.symm
          refine ⟨rfl, _, mp122, gm122, fun x y hxy => ?_, ?_, ?_, fun k k1 k2 => ?_⟩
          · have n1 : x ≠ 901 := by omega
            have n2 : x ≠ 902 := by omega
            simp [fu, n1, n2]
          · refine SL_cr sa pa ?_ ?_ ?_ ?_ ?_ w1 w2
            · simp [fu, hij, hji, c86]; try rfl
            · simp [fu, hij, hji]
            · simp [fu]
            · simp [fu]
            · simp [fu]
          · refine SL_cr sb pb ?_ ?_ ?_ ?_ ?_ w3 w4
            · simp [fu, hij, hji, c98]; try rfl
            · simp [fu, hij, hji]
            · simp [fu]
            · simp [fu]
            · simp [fu]
          · unfold OS
            simp [fu, k1, k2]
        · refine V_aload_n (pc := 101) X 2 dX9_crosses_101 rfl ?_
          refine V_get (pc := 102) X fl_X9_7 dX9_crosses_102 mp.k (mp.f 901) ?_
          refine V_iload_n (pc := 105) X 4 dX9_crosses_105 rfl ?_
          refine V_iconst (pc := 106) (v := 0) X dX9_crosses_106 (by decide) ?_
          show V _ _ _ _ _ _ (Value.int (nI 0) :: _)
          refine M_ast (pc := 107) X mp ⟨by unfold isA; decide, by decide⟩ (by show _ < 1401; omega) dX9_crosses_107 (fun h107 mp107 fm107 => ?_)
          have gm107 := gm.seq fm107
          refine V_aload_n (pc := 108) X 2 dX9_crosses_108 rfl ?_
          refine V_get (pc := 109) X fl_X9_13 dX9_crosses_109 mp107.k (mp107.f 902) ?_
          refine V_iload_n (pc := 112) X 3 dX9_crosses_112 rfl ?_
          refine V_iload_n (pc := 113) X 1 dX9_crosses_113 rfl ?_
          refine M_ast (pc := 114) X mp107 ⟨by unfold isA; decide, by decide⟩ (by show _ < 1401; omega) dX9_crosses_114 (fun h114 mp114 fm114 => ?_)
          have gm114 := gm107.seq fm114
          refine V_aload_n (pc := 115) X 2 dX9_crosses_115 rfl ?_
          refine V_get (pc := 116) X fl_X9_13 dX9_crosses_116 mp114.k (mp114.f 902) ?_
          refine V_iload_n (pc := 119) X 4 dX9_crosses_119 rfl ?_
          refine V_iload (pc := 120) X 0 dX9_crosses_120 rfl ?_
          refine M_ast (pc := 122) X mp114 ⟨by unfold isA; decide, by decide⟩ (by show _ < 1401; omega) dX9_crosses_122 (fun h122 mp122 fm122 => ?_)
          have gm122 := gm114.seq fm122
          refine V_vret (pc := 123) X Q rfl dX9_crosses_123 ?_
          have hji : ¬ j = i := fun u => hij u.symm
          refine ⟨rfl, _, mp122, gm122, fun x y hxy => ?_, ?_, ?_, fun k k1 k2 => ?_⟩
          · have n1 : x ≠ 901 := by omega
            have n2 : x ≠ 902 := by omega
            simp [fu, n1, n2]
          · refine SL_cr sa pa ?_ ?_ ?_ ?_ ?_ w1 w2
            · simp [fu, hij, hji, c86]; try rfl
            · simp [fu, hij, hji]
            · simp [fu]
            · simp [fu]
            · simp [fu]
          · refine SL_cr sb pb ?_ ?_ ?_ ?_ ?_ w3 w4
            · simp [fu, hij, hji, c98]; try rfl
            · simp [fu, hij, hji]
            · simp [fu]
            · simp [fu]
            · simp [fu]
          · unfold OS
            simp [fu, k1, k2]
      · refine V_aload_n (pc := 89) X 2 dX9_crosses_89 rfl ?_
        refine V_get (pc := 90) X fl_X9_7 dX9_crosses_90 mp.k (mp.f 901) ?_
        refine V_iload_n (pc := 93) X 3 dX9_crosses_93 rfl ?_
        refine V_iconst (pc := 94) (v := 0) X dX9_crosses_94 (by decide) ?_
        show V _ _ _ _ _ _ (Value.int (nI 0) :: _)
        refine M_ast (pc := 95) X mp ⟨by unfold isA; decide, by decide⟩ (by show _ < 1401; omega) dX9_crosses_95 (fun h95 mp95 fm95 => ?_)
        have gm95 := gm.seq fm95
        refine V_iload (pc := 96) X 0 dX9_crosses_96 rfl ?_
        refine V_if_ge (pc := 98) X 108 dX9_crosses_98 (by decide) (fun c98 => ?_) (fun c98 => ?_)
        · refine V_aload_n (pc := 108) X 2 dX9_crosses_108 rfl ?_
          refine V_get (pc := 109) X fl_X9_13 dX9_crosses_109 mp95.k (mp95.f 902) ?_
          refine V_iload_n (pc := 112) X 3 dX9_crosses_112 rfl ?_
          refine V_iload_n (pc := 113) X 1 dX9_crosses_113 rfl ?_
          refine M_ast (pc := 114) X mp95 ⟨by unfold isA; decide, by decide⟩ (by show _ < 1401; omega) dX9_crosses_114 (fun h114 mp114 fm114 => ?_)
          have gm114 := gm95.seq fm114
          refine V_aload_n (pc := 115) X 2 dX9_crosses_115 rfl ?_
          refine V_get (pc := 116) X fl_X9_13 dX9_crosses_116 mp114.k (mp114.f 902) ?_
          refine V_iload_n (pc := 119) X 4 dX9_crosses_119 rfl ?_
          refine V_iload (pc := 120) X 0 dX9_crosses_120 rfl ?_
          refine M_ast (pc := 122) X mp114 ⟨by unfold isA; decide, by decide⟩ (by show _ < 1401; omega) dX9_crosses_122 (fun h122 mp122 fm122 => ?_)
          have gm122 := gm114.seq fm122
          refine V_vret (pc := 123) X Q rfl dX9_crosses_123 ?_
          have hji : ¬ j = i := fun u => hij u.symm
          refine ⟨rfl, _, mp122, gm122, fun x y hxy => ?_, ?_, ?_, fun k k1 k2 => ?_⟩
          · have n1 : x ≠ 901 := by omega
            have n2 : x ≠ 902 := by omega
            simp [fu, n1, n2]
          · refine SL_cr sa pa ?_ ?_ ?_ ?_ ?_ w1 w2
            · simp [fu, hij, hji, c86]; try rfl
            · simp [fu, hij, hji]
            · simp [fu]
            · simp [fu]
            · simp [fu]
          · refine SL_cr sb pb ?_ ?_ ?_ ?_ ?_ w3 w4
            · simp [fu, hij, hji, c98]; try rfl
            · simp [fu, hij, hji]
            · simp [fu]
            · simp [fu]
            · simp [fu]
          · unfold OS
            simp [fu, k1, k2]
        · refine V_aload_n (pc := 101) X 2 dX9_crosses_101 rfl ?_
          refine V_get (pc := 102) X fl_X9_7 dX9_crosses_102 mp95.k (mp95.f 901) ?_
          refine V_iload_n (pc := 105) X 4 dX9_crosses_105 rfl ?_
          refine V_iconst (pc := 106) (v := 0) X dX9_crosses_106 (by decide) ?_
          show V _ _ _ _ _ _ (Value.int (nI 0) :: _)
          refine M_ast (pc := 107) X mp95 ⟨by unfold isA; decide, by decide⟩ (by show _ < 1401; omega) dX9_crosses_107 (fun h107 mp107 fm107 => ?_)
          have gm107 := gm95.seq fm107
          refine V_aload_n (pc := 108) X 2 dX9_crosses_108 rfl ?_
          refine V_get (pc := 109) X fl_X9_13 dX9_crosses_109 mp107.k (mp107.f 902) ?_
          refine V_iload_n (pc := 112) X 3 dX9_crosses_112 rfl ?_
          refine V_iload_n (pc := 113) X 1 dX9_crosses_113 rfl ?_
          refine M_ast (pc := 114) X mp107 ⟨by unfold isA; decide, by decide⟩ (by show _ < 1401; omega) dX9_crosses_114 (fun h114 mp114 fm114 => ?_)
          have gm114 := gm107.seq fm114
          refine V_aload_n (pc := 115) X 2 dX9_crosses_115 rfl ?_
          refine V_get (pc := 116) X fl_X9_13 dX9_crosses_116 mp114.k (mp114.f 902) ?_
          refine V_iload_n (pc := 119) X 4 dX9_crosses_119 rfl ?_
          refine V_iload (pc := 120) X 0 dX9_crosses_120 rfl ?_
          refine M_ast (pc := 122) X mp114 ⟨by unfold isA; decide, by decide⟩ (by show _ < 1401; omega) dX9_crosses_122 (fun h122 mp122 fm122 => ?_)
          have gm122 := gm114.seq fm122
          refine V_vret (pc := 123) X Q rfl dX9_crosses_123 ?_
          have hji : ¬ j = i := fun u => hij u.symm
          refine ⟨rfl, _, mp122, gm122, fun x y hxy => ?_, ?_, ?_, fun k k1 k2 => ?_⟩
          · have n1 : x ≠ 901 := by omega
            have n2 : x ≠ 902 := by omega
            simp [fu, n1, n2]
          · refine SL_cr sa pa ?_ ?_ ?_ ?_ ?_ w1 w2
            · simp [fu, hij, hji, c86]; try rfl
            · simp [fu, hij, hji]
            · simp [fu]
            · simp [fu]
            · simp [fu]
          · refine SL_cr sb pb ?_ ?_ ?_ ?_ ?_ w3 w4
            · simp [fu, hij, hji, c98]; try rfl
            · simp [fu, hij, hji]
            · simp [fu]
            · simp [fu]
            · simp [fu]
          · unfold OS
            simp [fu, k1, k2]
    · have k72 : a.2.2.2 = 0 := (nI_eq (b := 0) (by omega) (by decide)).mp c72
      have fl72 : (nI 1 : Int32) = if a.2.2.2 = 0 then 1 else 0 := (if_pos k72).symm
      refine V_iconst (pc := 75) (v := 1) X dX9_crosses_75 (by decide) ?_
      show V _ _ _ _ _ _ (Value.int (nI 1) :: _)
      refine V_goto (pc := 76) X 80 dX9_crosses_76 (by decide) ?_
      rw [fl72]
      refine V_callS (pc := 80) X _ (m_moved (a := b) (b := a) sb.1 sa.1 pb pa sb.2.2.1 sa.2.2.1) cw_X9_100 (Q.room (by decide) (by decide)) rfl (Nat.le_of_ble_eq_true rfl) rfl (by omega) dX9_crosses_80 (fun _ _ z => z.elim) ?_
      rintro v80 h80 ⟨⟨w', rfl, w3, w4⟩, e80⟩
      rw [e80]
      simp only [Option.toList_some, List.cons_append, List.nil_append]
      refine V_istore (pc := 83) X [(4, .int _), (3, .int _), (0, .ref _), (1, .int _), (2, .int _)] dX9_crosses_83 (by decide) rfl ?_
      refine V_iload_n (pc := 85) X 1 dX9_crosses_85 rfl ?_
      refine V_if_ge (pc := 86) X 96 dX9_crosses_86 (by decide) (fun c86 => ?_) (fun c86 => ?_)
      · refine V_iload (pc := 96) X 0 dX9_crosses_96 rfl ?_
        refine V_if_ge (pc := 98) X 108 dX9_crosses_98 (by decide) (fun c98 => ?_) (fun c98 => ?_)
        · refine V_aload_n (pc := 108) X 2 dX9_crosses_108 rfl ?_
          refine V_get (pc := 109) X fl_X9_13 dX9_crosses_109 mp.k (mp.f 902) ?_
          refine V_iload_n (pc := 112) X 3 dX9_crosses_112 rfl ?_
          refine V_iload_n (pc := 113) X 1 dX9_crosses_113 rfl ?_
          refine M_ast (pc := 114) X mp ⟨by unfold isA; decide, by decide⟩ (by show _ < 1401; omega) dX9_crosses_114 (fun h114 mp114 fm114 => ?_)
          have gm114 := gm.seq fm114
          refine V_aload_n (pc := 115) X 2 dX9_crosses_115 rfl ?_
          refine V_get (pc := 116) X fl_X9_13 dX9_crosses_116 mp114.k (mp114.f 902) ?_
          refine V_iload_n (pc := 119) X 4 dX9_crosses_119 rfl ?_
          refine V_iload (pc := 120) X 0 dX9_crosses_120 rfl ?_
          refine M_ast (pc := 122) X mp114 ⟨by unfold isA; decide, by decide⟩ (by show _ < 1401; omega) dX9_crosses_122 (fun h122 mp122 fm122 => ?_)
          have gm122 := gm114.seq fm122
          refine V_vret (pc := 123) X Q rfl dX9_crosses_123 ?_
          have hji : ¬ j = i := fun u => hij u.symm
          refine ⟨rfl, _, mp122, gm122, fun x y hxy => ?_, ?_, ?_, fun k k1 k2 => ?_⟩
          · have n1 : x ≠ 901 := by omega
            have n2 : x ≠ 902 := by omega
            simp [fu, n1, n2]
          · refine SL_cr sa pa ?_ ?_ ?_ ?_ ?_ w1 w2
            · simp [fu, hij, hji, c86]; try rfl
            · simp [fu, hij, hji]
            · simp [fu]
            · simp [fu]
            · simp [fu]
          · refine SL_cr sb pb ?_ ?_ ?_ ?_ ?_ w3 w4
            · simp [fu, hij, hji, c98]; try rfl
            · simp [fu, hij, hji]
            · simp [fu]
            · simp [fu]
            · simp [fu]
          · unfold OS
            simp [fu, k1, k2]
        · refine V_aload_n (pc := 101) X 2 dX9_crosses_101 rfl ?_
          refine V_get (pc := 102) X fl_X9_7 dX9_crosses_102 mp.k (mp.f 901) ?_
          refine V_iload_n (pc := 105) X 4 dX9_crosses_105 rfl ?_
          refine V_iconst (pc := 106) (v := 0) X dX9_crosses_106 (by decide) ?_
          show V _ _ _ _ _ _ (Value.int (nI 0) :: _)
          refine M_ast (pc := 107) X mp ⟨by unfold isA; decide, by decide⟩ (by show _ < 1401; omega) dX9_crosses_107 (fun h107 mp107 fm107 => ?_)
          have gm107 := gm.seq fm107
          refine V_aload_n (pc := 108) X 2 dX9_crosses_108 rfl ?_
          refine V_get (pc := 109) X fl_X9_13 dX9_crosses_109 mp107.k (mp107.f 902) ?_
          refine V_iload_n (pc := 112) X 3 dX9_crosses_112 rfl ?_
          refine V_iload_n (pc := 113) X 1 dX9_crosses_113 rfl ?_
          refine M_ast (pc := 114) X mp107 ⟨by unfold isA; decide, by decide⟩ (by show _ < 1401; omega) dX9_crosses_114 (fun h114 mp114 fm114 => ?_)
          have gm114 := gm107.seq fm114
          refine V_aload_n (pc := 115) X 2 dX9_crosses_115 rfl ?_
          refine V_get (pc := 116) X fl_X9_13 dX9_crosses_116 mp114.k (mp114.f 902) ?_
          refine V_iload_n (pc := 119) X 4 dX9_crosses_119 rfl ?_
          refine V_iload (pc := 120) X 0 dX9_crosses_120 rfl ?_
          refine M_ast (pc := 122) X mp114 ⟨by unfold isA; decide, by decide⟩ (by show _ < 1401; omega) dX9_crosses_122 (fun h122 mp122 fm122 => ?_)
          have gm122 := gm114.seq fm122
          refine V_vret (pc := 123) X Q rfl dX9_crosses_123 ?_
          have hji : ¬ j = i := fun u => hij u.symm
          refine ⟨rfl, _, mp122, gm122, fun x y hxy => ?_, ?_, ?_, fun k k1 k2 => ?_⟩
          · have n1 : x ≠ 901 := by omega
            have n2 : x ≠ 902 := by omega
            simp [fu, n1, n2]
          · refine SL_cr sa pa ?_ ?_ ?_ ?_ ?_ w1 w2
            · simp [fu, hij, hji, c86]; try rfl
            · simp [fu, hij, hji]
            · simp [fu]
            · simp [fu]
            · simp [fu]
          · refine SL_cr sb pb ?_ ?_ ?_ ?_ ?_ w3 w4
            · simp [fu, hij, hji, c98]; try rfl
            · simp [fu, hij, hji]
            · simp [fu]
            · simp [fu]
            · simp [fu]
          · unfold OS
            simp [fu, k1, k2]
      · refine V_aload_n (pc := 89) X 2 dX9_crosses_89 rfl ?_
        refine V_get (pc := 90) X fl_X9_7 dX9_crosses_90 mp.k (mp.f 901) ?_
        refine V_iload_n (pc := 93) X 3 dX9_crosses_93 rfl ?_
        refine V_iconst (pc := 94) (v := 0) X dX9_crosses_94 (by decide) ?_
        show V _ _ _ _ _ _ (Value.int (nI 0) :: _)
        refine M_ast (pc := 95) X mp ⟨by unfold isA; decide, by decide⟩ (by show _ < 1401; omega) dX9_crosses_95 (fun h95 mp95 fm95 => ?_)
        have gm95 := gm.seq fm95
        refine V_iload (pc := 96) X 0 dX9_crosses_96 rfl ?_
        refine V_if_ge (pc := 98) X 108 dX9_crosses_98 (by decide) (fun c98 => ?_) (fun c98 => ?_)
        · refine V_aload_n (pc := 108) X 2 dX9_crosses_108 rfl ?_
          refine V_get (pc := 109) X fl_X9_13 dX9_crosses_109 mp95.k (mp95.f 902) ?_
          refine V_iload_n (pc := 112) X 3 dX9_crosses_112 rfl ?_
          refine V_iload_n (pc := 113) X 1 dX9_crosses_113 rfl ?_
          refine M_ast (pc := 114) X mp95 ⟨by unfold isA; decide, by decide⟩ (by show _ < 1401; omega) dX9_crosses_114 (fun h114 mp114 fm114 => ?_)
          have gm114 := gm95.seq fm114
          refine V_aload_n (pc := 115) X 2 dX9_crosses_115 rfl ?_
          refine V_get (pc := 116) X fl_X9_13 dX9_crosses_116 mp114.k (mp114.f 902) ?_
          refine V_iload_n (pc := 119) X 4 dX9_crosses_119 rfl ?_
          refine V_iload (pc := 120) X 0 dX9_crosses_120 rfl ?_
          refine M_ast (pc := 122) X mp114 ⟨by unfold isA; decide, by decide⟩ (by show _ < 1401; omega) dX9_crosses_122 (fun h122 mp122 fm122 => ?_)
          have gm122 := gm114.seq fm122
          refine V_vret (pc := 123) X Q rfl dX9_crosses_123 ?_
          have hji : ¬ j = i := fun u => hij u.symm
          refine ⟨rfl, _, mp122, gm122, fun x y hxy => ?_, ?_, ?_, fun k k1 k2 => ?_⟩
          · have n1 : x ≠ 901 := by omega
            have n2 : x ≠ 902 := by omega
            simp [fu, n1, n2]
          · refine SL_cr sa pa ?_ ?_ ?_ ?_ ?_ w1 w2
            · simp [fu, hij, hji, c86]; try rfl
            · simp [fu, hij, hji]
            · simp [fu]
            · simp [fu]
            · simp [fu]
          · refine SL_cr sb pb ?_ ?_ ?_ ?_ ?_ w3 w4
            · simp [fu, hij, hji, c98]; try rfl
            · simp [fu, hij, hji]
            · simp [fu]
            · simp [fu]
            · simp [fu]
          · unfold OS
            simp [fu, k1, k2]
        · refine V_aload_n (pc := 101) X 2 dX9_crosses_101 rfl ?_
          refine V_get (pc := 102) X fl_X9_7 dX9_crosses_102 mp95.k (mp95.f 901) ?_
          refine V_iload_n (pc := 105) X 4 dX9_crosses_105 rfl ?_
          refine V_iconst (pc := 106) (v := 0) X dX9_crosses_106 (by decide) ?_
          show V _ _ _ _ _ _ (Value.int (nI 0) :: _)
          refine M_ast (pc := 107) X mp95 ⟨by unfold isA; decide, by decide⟩ (by show _ < 1401; omega) dX9_crosses_107 (fun h107 mp107 fm107 => ?_)
          have gm107 := gm95.seq fm107
          refine V_aload_n (pc := 108) X 2 dX9_crosses_108 rfl ?_
          refine V_get (pc := 109) X fl_X9_13 dX9_crosses_109 mp107.k (mp107.f 902) ?_
          refine V_iload_n (pc := 112) X 3 dX9_crosses_112 rfl ?_
          refine V_iload_n (pc := 113) X 1 dX9_crosses_113 rfl ?_
          refine M_ast (pc := 114) X mp107 ⟨by unfold isA; decide, by decide⟩ (by show _ < 1401; omega) dX9_crosses_114 (fun h114 mp114 fm114 => ?_)
          have gm114 := gm107.seq fm114
          refine V_aload_n (pc := 115) X 2 dX9_crosses_115 rfl ?_
          refine V_get (pc := 116) X fl_X9_13 dX9_crosses_116 mp114.k (mp114.f 902) ?_
          refine V_iload_n (pc := 119) X 4 dX9_crosses_119 rfl ?_
          refine V_iload (pc := 120) X 0 dX9_crosses_120 rfl ?_
          refine M_ast (pc := 122) X mp114 ⟨by unfold isA; decide, by decide⟩ (by show _ < 1401; omega) dX9_crosses_122 (fun h122 mp122 fm122 => ?_)
          have gm122 := gm114.seq fm122
          refine V_vret (pc := 123) X Q rfl dX9_crosses_123 ?_
          have hji : ¬ j = i := fun u => hij u.symm
          refine ⟨rfl, _, mp122, gm122, fun x y hxy => ?_, ?_, ?_, fun k k1 k2 => ?_⟩
          · have n1 : x ≠ 901 := by omega
            have n2 : x ≠ 902 := by omega
            simp [fu, n1, n2]
          · refine SL_cr sa pa ?_ ?_ ?_ ?_ ?_ w1 w2
            · simp [fu, hij, hji, c86]; try rfl
            · simp [fu, hij, hji]
            · simp [fu]
            · simp [fu]
            · simp [fu]
          · refine SL_cr sb pb ?_ ?_ ?_ ?_ ?_ w3 w4
            · simp [fu, hij, hji, c98]; try rfl
            · simp [fu, hij, hji]
            · simp [fu]
            · simp [fu]
            · simp [fu]
          · unfold OS
            simp [fu, k1, k2]
theorem m_shifts {E : EV} {h : AH} {q : Nat} {A : Nat → Nat} {F : MS'} (mp : MP h q A F) {i j : Nat} (hi : i < 603) (hj : j < 603) : Ct E yX9_shifts cX9_shifts 3 none 1 0 [.ref q, .int (nI i), .int (nI j)] h (fun v h1 => v = none ∧ ∃ F', MP h1 q A F' ∧ FM h h1 ∧ (∀ x y, ¬ (906 ≤ x ∧ x ≤ 908) → F' x y = F x y) ∧ ∀ x y, 906 ≤ x → x ≤ 908 → F' x y = if y = i then F x j else F x y) noX := by
  refine Ct_of RX9 (by decide +kernel) rfl (Nat.le_of_ble_eq_true rfl) (fun Γ X nt Q hin => ?_)
  have gm := FM.refl h
  refine V_aload_n (pc := 0) X 0 dX9_shifts_0 rfl ?_
  refine V_get (pc := 1) X fl_X9_25 dX9_shifts_1 mp.k (mp.f 906) ?_
  refine V_iload_n (pc := 4) X 1 dX9_shifts_4 rfl ?_
  refine V_aload_n (pc := 5) X 0 dX9_shifts_5 rfl ?_
  refine V_get (pc := 6) X fl_X9_25 dX9_shifts_6 mp.k (mp.f 906) ?_
  refine V_iload_n (pc := 9) X 2 dX9_shifts_9 rfl ?_
  refine M_ald (pc := 10) X mp ⟨by unfold isA; decide, by decide⟩ (by show _ < 603; omega) dX9_shifts_10 ?_
  refine M_ast (pc := 11) X mp ⟨by unfold isA; decide, by decide⟩ (by show _ < 603; omega) dX9_shifts_11 (fun h11 mp11 fm11 => ?_)
  have gm11 := gm.seq fm11
  refine V_aload_n (pc := 12) X 0 dX9_shifts_12 rfl ?_
  refine V_get (pc := 13) X fl_X9_28 dX9_shifts_13 mp11.k (mp11.f 907) ?_
  refine V_iload_n (pc := 16) X 1 dX9_shifts_16 rfl ?_
  refine V_aload_n (pc := 17) X 0 dX9_shifts_17 rfl ?_
  refine V_get (pc := 18) X fl_X9_28 dX9_shifts_18 mp11.k (mp11.f 907) ?_
  refine V_iload_n (pc := 21) X 2 dX9_shifts_21 rfl ?_
  refine M_ald (pc := 22) X mp11 ⟨by unfold isA; decide, by decide⟩ (by show _ < 603; omega) dX9_shifts_22 ?_
  refine M_ast (pc := 23) X mp11 ⟨by unfold isA; decide, by decide⟩ (by show _ < 603; omega) dX9_shifts_23 (fun h23 mp23 fm23 => ?_)
  have gm23 := gm11.seq fm23
  refine V_aload_n (pc := 24) X 0 dX9_shifts_24 rfl ?_
  refine V_get (pc := 25) X fl_X9_31 dX9_shifts_25 mp23.k (mp23.f 908) ?_
  refine V_iload_n (pc := 28) X 1 dX9_shifts_28 rfl ?_
  refine V_aload_n (pc := 29) X 0 dX9_shifts_29 rfl ?_
  refine V_get (pc := 30) X fl_X9_31 dX9_shifts_30 mp23.k (mp23.f 908) ?_
  refine V_iload_n (pc := 33) X 2 dX9_shifts_33 rfl ?_
  refine M_ald (pc := 34) X mp23 ⟨by unfold isA; decide, by decide⟩ (by show _ < 603; omega) dX9_shifts_34 ?_
  refine M_ast (pc := 35) X mp23 ⟨by unfold isA; decide, by decide⟩ (by show _ < 603; omega) dX9_shifts_35 (fun h35 mp35 fm35 => ?_)
  have gm35 := gm23.seq fm35
  refine V_vret (pc := 36) X Q rfl dX9_shifts_36 ?_
  refine ⟨rfl, _, mp35, gm35, fun x y hxy => ?_, fun x y h1 h2 => ?_⟩
  · rw [fu_i (by omega), fu_i (by omega), fu_i (by omega)]
  · by_cases e : y = i
    · subst e
      rw [if_pos rfl]
      rcases (show x = 906 ∨ x = 907 ∨ x = 908 by omega) with rfl | rfl | rfl <;> simp [fu]
    · rw [if_neg e]
      simp [fu, e]
theorem m_isBetween {E : EV} {h : AH} {v lo hi : Int32} : Ct E yX9_isBetween cX9_isBetween 3 (some .boolean) 1 0 [.int v, .int lo, .int hi] h (fun r h1 => r = some (.int (if lo ≤ v ∧ v ≤ hi then 1 else 0)) ∧ h1 = h) noX := by
  refine Ct_of RX9 (by decide +kernel) rfl (Nat.le_of_ble_eq_true rfl) (fun Γ X nt Q hin => ?_)
  refine V_iload_n (pc := 0) X 1 dX9_isBetween_0 rfl ?_
  refine V_iload_n (pc := 1) X 0 dX9_isBetween_1 rfl ?_
  refine V_icmp_gt (pc := 2) X 14 dX9_isBetween_2 (by decide) (fun c2 => ?_) (fun c2 => ?_)
  · have k2 : ¬ (lo ≤ v ∧ v ≤ hi) := fun y => absurd y.1 (Int32.not_le.mpr c2)
    refine V_iconst (pc := 14) (v := 0) X dX9_isBetween_14 (by decide) ?_
    show V _ _ _ _ _ _ (Value.int (nI 0) :: _)
    refine V_iret (pc := 15) X Q rfl rfl dX9_isBetween_15 ?_
    refine ⟨?_, rfl⟩
    first
    | (rw [if_neg k2]; rfl)
    | (rw [if_neg k7]; rfl)
    | (rw [if_pos ⟨k2, k7⟩]; rfl)
  · have k2 : lo ≤ v := Int32.not_lt.mp c2
    refine V_iload_n (pc := 5) X 0 dX9_isBetween_5 rfl ?_
    refine V_iload_n (pc := 6) X 2 dX9_isBetween_6 rfl ?_
    refine V_icmp_gt (pc := 7) X 14 dX9_isBetween_7 (by decide) (fun c7 => ?_) (fun c7 => ?_)
    · have k7 : ¬ (lo ≤ v ∧ v ≤ hi) := fun y => absurd y.2 (Int32.not_le.mpr c7)
      refine V_iconst (pc := 14) (v := 0) X dX9_isBetween_14 (by decide) ?_
      show V _ _ _ _ _ _ (Value.int (nI 0) :: _)
      refine V_iret (pc := 15) X Q rfl rfl dX9_isBetween_15 ?_
      refine ⟨?_, rfl⟩
      first
      | (rw [if_neg k2]; rfl)
      | (rw [if_neg k7]; rfl)
      | (rw [if_pos ⟨k2, k7⟩]; rfl)
    · have k7 : v ≤ hi := Int32.not_lt.mp c7
      refine V_iconst (pc := 10) (v := 1) X dX9_isBetween_10 (by decide) ?_
      show V _ _ _ _ _ _ (Value.int (nI 1) :: _)
      refine V_goto (pc := 11) X 15 dX9_isBetween_11 (by decide) ?_
      refine V_iret (pc := 15) X Q rfl rfl dX9_isBetween_15 ?_
      refine ⟨?_, rfl⟩
      first
      | (rw [if_neg k2]; rfl)
      | (rw [if_neg k7]; rfl)
      | (rw [if_pos ⟨k2, k7⟩]; rfl)
theorem m_isEnd {E : EV} {h : AH} {x : Int32} : Ct E yX9_isEnd cX9_isEnd 1 (some .boolean) 2 0 [.int x] h (fun r h1 => r = some (.int (if 0 ≤ x ∧ x ≤ 1 then 1 else 0)) ∧ h1 = h) noX := by
  refine Ct_of RX9 (by decide +kernel) rfl (Nat.le_of_ble_eq_true rfl) (fun Γ X nt Q hin => ?_)
  refine V_iload_n (pc := 0) X 0 dX9_isEnd_0 rfl ?_
  refine V_iconst (pc := 1) (v := 0) X dX9_isEnd_1 (by decide) ?_
  show V _ _ _ _ _ _ (Value.int (nI 0) :: _)
  refine V_iconst (pc := 2) (v := 1) X dX9_isEnd_2 (by decide) ?_
  show V _ _ _ _ _ _ (Value.int (nI 1) :: _)
  refine V_callS (pc := 3) X _ m_isBetween cw_X9_96 (Q.room (by decide) (by decide)) rfl (Nat.le_of_ble_eq_true rfl) rfl (by omega) dX9_isEnd_3 (fun _ _ z => z.elim) ?_
  rintro v3 h3 ⟨rfl, e3⟩
  rw [e3]
  simp only [Option.toList_some, List.cons_append, List.nil_append]
  refine V_iret (pc := 6) X Q rfl (by split <;> rfl) dX9_isEnd_6 ?_
  exact ⟨rfl, rfl⟩
theorem m_sentAt {E : EV} {h : AH} {e : Nat} : Ct E yX9_sentAt cX9_sentAt 1 (some .int) 1 0 [.int (nI e)] h (fun r h1 => r = some (.int (nI (0 + 200 * e))) ∧ h1 = h) noX := by
  refine Ct_of RX9 (by decide +kernel) rfl (Nat.le_of_ble_eq_true rfl) (fun Γ X nt Q hin => ?_)
  refine V_iconst (pc := 0) (v := 0) X dX9_sentAt_0 (by decide) ?_
  show V _ _ _ _ _ _ (Value.int (nI 0) :: _)
  refine V_sipush (pc := 1) (v := 200) X dX9_sentAt_1 (by decide) ?_
  show V _ _ _ _ _ _ (Value.int (nI 200) :: _)
  refine V_iload_n (pc := 4) X 0 dX9_sentAt_4 rfl ?_
  refine V_imul (pc := 5) X dX9_sentAt_5 ?_
  rw [pk_mul]
  refine V_iadd (pc := 6) X dX9_sentAt_6 ?_
  rw [nI_add]
  refine V_iret (pc := 7) X Q rfl rfl dX9_sentAt_7 ?_
  exact ⟨rfl, rfl⟩
theorem m_waitingAt {E : EV} {h : AH} {e : Nat} : Ct E yX9_waitingAt cX9_waitingAt 1 (some .int) 1 0 [.int (nI e)] h (fun r h1 => r = some (.int (nI (400 + 200 * e))) ∧ h1 = h) noX := by
  refine Ct_of RX9 (by decide +kernel) rfl (Nat.le_of_ble_eq_true rfl) (fun Γ X nt Q hin => ?_)
  refine V_sipush (pc := 0) (v := 400) X dX9_waitingAt_0 (by decide) ?_
  show V _ _ _ _ _ _ (Value.int (nI 400) :: _)
  refine V_sipush (pc := 3) (v := 200) X dX9_waitingAt_3 (by decide) ?_
  show V _ _ _ _ _ _ (Value.int (nI 200) :: _)
  refine V_iload_n (pc := 6) X 0 dX9_waitingAt_6 rfl ?_
  refine V_imul (pc := 7) X dX9_waitingAt_7 ?_
  rw [pk_mul]
  refine V_iadd (pc := 8) X dX9_waitingAt_8 ?_
  rw [nI_add]
  refine V_iret (pc := 9) X Q rfl rfl dX9_waitingAt_9 ?_
  exact ⟨rfl, rfl⟩
theorem m_upAt {E : EV} {h : AH} {e : Nat} : Ct E yX9_upAt cX9_upAt 1 (some .int) 1 0 [.int (nI e)] h (fun r h1 => r = some (.int (nI (800 + 200 * e))) ∧ h1 = h) noX := by
  refine Ct_of RX9 (by decide +kernel) rfl (Nat.le_of_ble_eq_true rfl) (fun Γ X nt Q hin => ?_)
  refine V_sipush (pc := 0) (v := 800) X dX9_upAt_0 (by decide) ?_
  show V _ _ _ _ _ _ (Value.int (nI 800) :: _)
  refine V_sipush (pc := 3) (v := 200) X dX9_upAt_3 (by decide) ?_
  show V _ _ _ _ _ _ (Value.int (nI 200) :: _)
  refine V_iload_n (pc := 6) X 0 dX9_upAt_6 rfl ?_
  refine V_imul (pc := 7) X dX9_upAt_7 ?_
  rw [pk_mul]
  refine V_iadd (pc := 8) X dX9_upAt_8 ?_
  rw [nI_add]
  refine V_iret (pc := 9) X Q rfl rfl dX9_upAt_9 ?_
  exact ⟨rfl, rfl⟩
