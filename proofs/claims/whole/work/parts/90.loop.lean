/-! THE LAW'S LOOP -/
theorem gt_4 {i L : Nat} (hi : i ≤ 4096) (hL : L ≤ 2048) : nI i > Int32.ofNat L - 4 ↔ L < i + 4 := by
  have e1 : (nI L - 4).toInt = (L : Int) - 4 := by
    rw [Int32.toInt_sub, nI_toInt (by omega)]
    have : (4 : Int32).toInt = 4 := by decide
    rw [this]
    exact Int.bmod_eq_of_le (by omega) (by omega)
  show nI L - 4 < nI i ↔ _
  rw [Int32.lt_iff_toInt_lt, e1, nI_toInt (by omega)]
  omega
theorem law_loop {E : EV} {Γ : VG} {b0 L : Nat} {xs : Nat → Int32} (lw : LW E Γ b0 L xs) {q q2 o1 o2 : Nat} {A : Nat → Nat} : ∀ (n i : Nat) (h : AH) (s : SQ), L + 4 - i < n → i ≤ L + 3 → LSt h q q2 o1 o2 A s → V E Γ (335 * (L - i) + Ph s) h 28 [(5, .int (nI i)), (0, .ref b0), (1, .ref q), (2, .ref q2), (3, .ref o1), (4, .ref o2)] [] := by
  intro n
  induction n with
  | zero => exact fun i h s hn => absurd hn (Nat.not_lt_zero _)
  | succ n ih =>
    intro i h s hn hiL ls
    have lw0 := lw
    obtain ⟨X, nx, hX, hbl, hbA, hRm, hL, hend⟩ := lw
    refine V_iload (pc := 28) X 0 dL_law_28 rfl ?_
    refine V_aload_n (pc := 30) X 1 dL_law_30 rfl ?_
    refine V_slen (pc := 31) X hX hbl hbA dL_law_31 ?_
    refine V_iconst (pc := 32) (v := 4) X dL_law_32 (by decide) ?_
    refine V_isub (pc := 33) X dL_law_33 ?_
    refine V_icmp_gt (pc := 34) X 2129 dL_law_34 (by decide) (fun c34 => ?_) (fun c34 => ?_)
    · refine V_iconst (pc := 2129) (v := 1) X dL_law_2129 (by decide) ?_
      exact hend _ _ _ _ dL_law_2130
    · have hi : i + 4 ≤ L := by
        rcases Nat.lt_or_ge L (i + 4) with y | y
        · exact absurd ((gt_4 (by omega) hL).mpr y) c34
        · exact y
      have fin : ∀ (h2 : AH) (s2 : SQ), LSt h2 q q2 o1 o2 A s2 → V E Γ (335 * (L - (i + 4)) + Ph s2) h2 2123 [(5, .int (nI i)), (0, .ref b0), (1, .ref q), (2, .ref q2), (3, .ref o1), (4, .ref o2)] [] := fun h2 s2 ls2 => by
        refine V_iinc (pc := 2123) X 0 [(5, .int _), (0, .ref b0), (1, .ref q), (2, .ref q2), (3, .ref o1), (4, .ref o2)] dL_law_2123 rfl rfl (by decide) rfl ?_
        rw [show nI i + Int32.ofInt 4 = nI (i + 4) from nI_4 i]
        refine V_goto (pc := 2126) X 28 dL_law_2126 (by decide) ?_
        exact ih (i + 4) h2 s2 (by omega) (by omega) ls2
      refine V_aload_n (pc := 37) X 1 dL_law_37 rfl ?_
      refine V_iload (pc := 38) X 0 dL_law_38 rfl ?_
      refine V_sld (pc := 40) X hX hbl hbA (vp_in_nI (show i < L by omega) (by omega)) dL_law_40 ?_
      refine V_bipush (pc := 41) (v := 63) X dL_law_41 (by decide) ?_
      refine V_iand (pc := 43) X dL_law_43 ?_
      obtain ⟨x, hx⟩ : ∃ x, x = xs (nI i).toNatClampNeg &&& 63 := ⟨_, rfl⟩
      rw [← hx]
      by_cases g0 : x = 0
      · rw [g0]
        refine V_swIn (pc := 44) (off := 160) X 204 dL_law_44 (by decide) (by decide) rfl (by decide) ?_
        exact cs_insert lw0 hi ls fin
      by_cases g1 : x = 1
      · rw [g1]
        refine V_swIn (pc := 44) (off := 242) X 286 dL_law_44 (by decide) (by decide) rfl (by decide) ?_
        exact cs_delete lw0 hi ls fin
      by_cases g2 : x = 2
      · rw [g2]
        refine V_swIn (pc := 44) (off := 310) X 354 dL_law_44 (by decide) (by decide) rfl (by decide) ?_
        exact cs_type lw0 hi ls fin
      by_cases g3 : x = 3
      · rw [g3]
        refine V_swIn (pc := 44) (off := 380) X 424 dL_law_44 (by decide) (by decide) rfl (by decide) ?_
        exact cs_erase lw0 hi ls fin
      by_cases g4 : x = 4
      · rw [g4]
        refine V_swIn (pc := 44) (off := 436) X 480 dL_law_44 (by decide) (by decide) rfl (by decide) ?_
        exact cs_moveCursor lw0 hi ls fin
      by_cases g5 : x = 5
      · rw [g5]
        refine V_swIn (pc := 44) (off := 504) X 548 dL_law_44 (by decide) (by decide) rfl (by decide) ?_
        exact cs_undo lw0 hi ls fin
      by_cases g6 : x = 6
      · rw [g6]
        refine V_swIn (pc := 44) (off := 567) X 611 dL_law_44 (by decide) (by decide) rfl (by decide) ?_
        exact cs_deliverUp lw0 hi ls fin
      by_cases g7 : x = 7
      · rw [g7]
        refine V_swIn (pc := 44) (off := 623) X 667 dL_law_44 (by decide) (by decide) rfl (by decide) ?_
        exact cs_deliverDown lw0 hi ls fin
      by_cases g8 : x = 8
      · rw [g8]
        refine V_swIn (pc := 44) (off := 679) X 723 dL_law_44 (by decide) (by decide) rfl (by decide) ?_
        exact cs_deliverAll lw0 hi ls fin
      by_cases g9 : x = 9
      · rw [g9]
        refine V_swIn (pc := 44) (off := 692) X 736 dL_law_44 (by decide) (by decide) rfl (by decide) ?_
        exact cs_length lw0 hi ls fin
      by_cases g10 : x = 10
      · rw [g10]
        refine V_swIn (pc := 44) (off := 748) X 792 dL_law_44 (by decide) (by decide) rfl (by decide) ?_
        exact cs_charAt lw0 hi ls fin
      by_cases g11 : x = 11
      · rw [g11]
        refine V_swIn (pc := 44) (off := 816) X 860 dL_law_44 (by decide) (by decide) rfl (by decide) ?_
        exact cs_ownerAt lw0 hi ls fin
      by_cases g12 : x = 12
      · rw [g12]
        refine V_swIn (pc := 44) (off := 884) X 928 dL_law_44 (by decide) (by decide) rfl (by decide) ?_
        exact cs_lengthByHistory lw0 hi ls fin
      by_cases g13 : x = 13
      · rw [g13]
        refine V_swIn (pc := 44) (off := 940) X 984 dL_law_44 (by decide) (by decide) rfl (by decide) ?_
        exact cs_charByHistory lw0 hi ls fin
      by_cases g14 : x = 14
      · rw [g14]
        refine V_swIn (pc := 44) (off := 1008) X 1052 dL_law_44 (by decide) (by decide) rfl (by decide) ?_
        exact cs_centreLength lw0 hi ls fin
      by_cases g15 : x = 15
      · rw [g15]
        refine V_swIn (pc := 44) (off := 1021) X 1065 dL_law_44 (by decide) (by decide) rfl (by decide) ?_
        exact cs_centreChar lw0 hi ls fin
      by_cases g16 : x = 16
      · rw [g16]
        refine V_swIn (pc := 44) (off := 1077) X 1121 dL_law_44 (by decide) (by decide) rfl (by decide) ?_
        exact cs_cursor lw0 hi ls fin
      by_cases g17 : x = 17
      · rw [g17]
        refine V_swIn (pc := 44) (off := 1133) X 1177 dL_law_44 (by decide) (by decide) rfl (by decide) ?_
        exact cs_mark lw0 hi ls fin
      by_cases g18 : x = 18
      · rw [g18]
        refine V_swIn (pc := 44) (off := 1189) X 1233 dL_law_44 (by decide) (by decide) rfl (by decide) ?_
        exact cs_revision lw0 hi ls fin
      by_cases g19 : x = 19
      · rw [g19]
        refine V_swIn (pc := 44) (off := 1245) X 1289 dL_law_44 (by decide) (by decide) rfl (by decide) ?_
        exact cs_sent lw0 hi ls fin
      by_cases g20 : x = 20
      · rw [g20]
        refine V_swIn (pc := 44) (off := 1301) X 1345 dL_law_44 (by decide) (by decide) rfl (by decide) ?_
        exact cs_waiting lw0 hi ls fin
      by_cases g21 : x = 21
      · rw [g21]
        refine V_swIn (pc := 44) (off := 1357) X 1401 dL_law_44 (by decide) (by decide) rfl (by decide) ?_
        exact cs_runs lw0 hi ls fin
      by_cases g22 : x = 22
      · rw [g22]
        refine V_swIn (pc := 44) (off := 1413) X 1457 dL_law_44 (by decide) (by decide) rfl (by decide) ?_
        exact cs_up lw0 hi ls fin
      by_cases g23 : x = 23
      · rw [g23]
        refine V_swIn (pc := 44) (off := 1469) X 1513 dL_law_44 (by decide) (by decide) rfl (by decide) ?_
        exact cs_down lw0 hi ls fin
      by_cases g24 : x = 24
      · rw [g24]
        refine V_swIn (pc := 44) (off := 1525) X 1569 dL_law_44 (by decide) (by decide) rfl (by decide) ?_
        exact cs_kept lw0 hi ls fin
      by_cases g25 : x = 25
      · rw [g25]
        refine V_swIn (pc := 44) (off := 1581) X 1625 dL_law_44 (by decide) (by decide) rfl (by decide) ?_
        exact cs_centreRevision lw0 hi ls fin
      by_cases g26 : x = 26
      · rw [g26]
        refine V_swIn (pc := 44) (off := 1594) X 1638 dL_law_44 (by decide) (by decide) rfl (by decide) ?_
        exact cs_historyEnd lw0 hi ls fin
      by_cases g27 : x = 27
      · rw [g27]
        refine V_swIn (pc := 44) (off := 1650) X 1694 dL_law_44 (by decide) (by decide) rfl (by decide) ?_
        exact cs_historySize lw0 hi ls fin
      by_cases g28 : x = 28
      · rw [g28]
        refine V_swIn (pc := 44) (off := 1706) X 1750 dL_law_44 (by decide) (by decide) rfl (by decide) ?_
        exact cs_historyKind lw0 hi ls fin
      by_cases g29 : x = 29
      · rw [g29]
        refine V_swIn (pc := 44) (off := 1774) X 1818 dL_law_44 (by decide) (by decide) rfl (by decide) ?_
        exact cs_historyPosition lw0 hi ls fin
      by_cases g30 : x = 30
      · rw [g30]
        refine V_swIn (pc := 44) (off := 1842) X 1886 dL_law_44 (by decide) (by decide) rfl (by decide) ?_
        exact cs_agree lw0 hi ls fin
      by_cases g31 : x = 31
      · rw [g31]
        refine V_swIn (pc := 44) (off := 1855) X 1899 dL_law_44 (by decide) (by decide) rfl (by decide) ?_
        exact cs_distance lw0 hi ls fin
      by_cases g32 : x = 32
      · rw [g32]
        refine V_swIn (pc := 44) (off := 1868) X 1912 dL_law_44 (by decide) (by decide) rfl (by decide) ?_
        exact cs_distanceByWays lw0 hi ls fin
      by_cases g33 : x = 33
      · rw [g33]
        refine V_swIn (pc := 44) (off := 1881) X 1925 dL_law_44 (by decide) (by decide) rfl (by decide) ?_
        exact cs_ownShare lw0 hi ls fin
      by_cases g34 : x = 34
      · rw [g34]
        refine V_swIn (pc := 44) (off := 1959) X 2003 dL_law_44 (by decide) (by decide) rfl (by decide) ?_
        exact cs_meanRun lw0 hi ls fin
      by_cases g35 : x = 35
      · rw [g35]
        refine V_swIn (pc := 44) (off := 2024) X 2068 dL_law_44 (by decide) (by decide) rfl (by decide) ?_
        exact cs_textNumber lw0 hi ls fin
      refine V_swOut (pc := 44) X 2123 dL_law_44 ?_ (by decide) (V.less (b' := 335 * (L - (i + 4)) + Ph s) (by omega) (fin h s ls))
      have t0 : x.toInt ≠ 0 := fun y => g0 (Int32.toInt_inj.mp (y.trans (by decide)))
      have t1 : x.toInt ≠ 1 := fun y => g1 (Int32.toInt_inj.mp (y.trans (by decide)))
      have t2 : x.toInt ≠ 2 := fun y => g2 (Int32.toInt_inj.mp (y.trans (by decide)))
      have t3 : x.toInt ≠ 3 := fun y => g3 (Int32.toInt_inj.mp (y.trans (by decide)))
      have t4 : x.toInt ≠ 4 := fun y => g4 (Int32.toInt_inj.mp (y.trans (by decide)))
      have t5 : x.toInt ≠ 5 := fun y => g5 (Int32.toInt_inj.mp (y.trans (by decide)))
      have t6 : x.toInt ≠ 6 := fun y => g6 (Int32.toInt_inj.mp (y.trans (by decide)))
      have t7 : x.toInt ≠ 7 := fun y => g7 (Int32.toInt_inj.mp (y.trans (by decide)))
      have t8 : x.toInt ≠ 8 := fun y => g8 (Int32.toInt_inj.mp (y.trans (by decide)))
      have t9 : x.toInt ≠ 9 := fun y => g9 (Int32.toInt_inj.mp (y.trans (by decide)))
      have t10 : x.toInt ≠ 10 := fun y => g10 (Int32.toInt_inj.mp (y.trans (by decide)))
      have t11 : x.toInt ≠ 11 := fun y => g11 (Int32.toInt_inj.mp (y.trans (by decide)))
      have t12 : x.toInt ≠ 12 := fun y => g12 (Int32.toInt_inj.mp (y.trans (by decide)))
      have t13 : x.toInt ≠ 13 := fun y => g13 (Int32.toInt_inj.mp (y.trans (by decide)))
      have t14 : x.toInt ≠ 14 := fun y => g14 (Int32.toInt_inj.mp (y.trans (by decide)))
      have t15 : x.toInt ≠ 15 := fun y => g15 (Int32.toInt_inj.mp (y.trans (by decide)))
      have t16 : x.toInt ≠ 16 := fun y => g16 (Int32.toInt_inj.mp (y.trans (by decide)))
      have t17 : x.toInt ≠ 17 := fun y => g17 (Int32.toInt_inj.mp (y.trans (by decide)))
      have t18 : x.toInt ≠ 18 := fun y => g18 (Int32.toInt_inj.mp (y.trans (by decide)))
      have t19 : x.toInt ≠ 19 := fun y => g19 (Int32.toInt_inj.mp (y.trans (by decide)))
      have t20 : x.toInt ≠ 20 := fun y => g20 (Int32.toInt_inj.mp (y.trans (by decide)))
      have t21 : x.toInt ≠ 21 := fun y => g21 (Int32.toInt_inj.mp (y.trans (by decide)))
      have t22 : x.toInt ≠ 22 := fun y => g22 (Int32.toInt_inj.mp (y.trans (by decide)))
      have t23 : x.toInt ≠ 23 := fun y => g23 (Int32.toInt_inj.mp (y.trans (by decide)))
      have t24 : x.toInt ≠ 24 := fun y => g24 (Int32.toInt_inj.mp (y.trans (by decide)))
      have t25 : x.toInt ≠ 25 := fun y => g25 (Int32.toInt_inj.mp (y.trans (by decide)))
      have t26 : x.toInt ≠ 26 := fun y => g26 (Int32.toInt_inj.mp (y.trans (by decide)))
      have t27 : x.toInt ≠ 27 := fun y => g27 (Int32.toInt_inj.mp (y.trans (by decide)))
      have t28 : x.toInt ≠ 28 := fun y => g28 (Int32.toInt_inj.mp (y.trans (by decide)))
      have t29 : x.toInt ≠ 29 := fun y => g29 (Int32.toInt_inj.mp (y.trans (by decide)))
      have t30 : x.toInt ≠ 30 := fun y => g30 (Int32.toInt_inj.mp (y.trans (by decide)))
      have t31 : x.toInt ≠ 31 := fun y => g31 (Int32.toInt_inj.mp (y.trans (by decide)))
      have t32 : x.toInt ≠ 32 := fun y => g32 (Int32.toInt_inj.mp (y.trans (by decide)))
      have t33 : x.toInt ≠ 33 := fun y => g33 (Int32.toInt_inj.mp (y.trans (by decide)))
      have t34 : x.toInt ≠ 34 := fun y => g34 (Int32.toInt_inj.mp (y.trans (by decide)))
      have t35 : x.toInt ≠ 35 := fun y => g35 (Int32.toInt_inj.mp (y.trans (by decide)))
      omega
