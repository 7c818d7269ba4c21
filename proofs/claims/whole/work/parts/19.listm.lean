theorem sR_sR (h : AH) (a : Nat) (x y : List Nat) : sR (sR h a x) a y = sR h a y := by
  show sL (sL h a x (qC h a)) a y (if a = a then qC h a else qC h a) = sL h a y (qC h a)
  rw [if_pos rfl]
  unfold sL
  refine Prod.ext rfl (Prod.ext rfl (Prod.ext ?_ (Prod.ext ?_ rfl))) <;> (funext b; dsimp only; split <;> rfl)
theorem nl_eq {c p : Nat} (hc : c < 40000) (hp : p < 40000) : nI c + (if nI 1 < nI p then nI p else nI 1) = nI (c + max 1 p) := by
  by_cases h : 1 < p
  · rw [if_pos (nI_lt h (by omega)), nI_add, Nat.max_eq_right (by omega)]
  · rw [if_neg (nI_nlt (by omega) (by decide)), nI_add, Nat.max_eq_left (by omega)]
/-- a list's heap behind a new row q -/
abbrev gR1 (h : AH) (a q : Nat) (r : List Nat) : AH := sF (sR (sK h q 19) q r) 1001 a (.ref q)
theorem qK_gR1 {h : AH} {a q b : Nat} {r : List Nat} : qK (gR1 h a q r) b = if b = q then 19 else qK h b := rfl
theorem c_newlen {E : EV} {h : AH} {c p : Nat} (hc : c < 40000) (hp : p < 40000) : Ct E yJ8_newLength_cabcc cJ8_newLength_cabcc 4 (some .int) 2 0 [.int (nI c), .int (nI 1), .int (nI p)] h (fun v h1 => v = some (.int (nI (c + max 1 p))) ∧ h1 = h) noX := by
  refine Ct_of RJ8 (by decide +kernel) rfl (Nat.le_of_ble_eq_true rfl) (fun Γ X nt Q hin => ?_)
  refine V_iload_n (pc := 0) X 0 dJ8_newLength_cabcc_0 rfl ?_
  refine V_iload_n (pc := 1) X 1 dJ8_newLength_cabcc_1 rfl ?_
  refine V_iload_n (pc := 2) X 2 dJ8_newLength_cabcc_2 rfl ?_
  refine V_mmax (pc := 3) X mm_J8_194 ⟨Q.fr (by decide), Q.lo (by decide)⟩ (Nat.le_of_ble_eq_true rfl) dJ8_newLength_cabcc_3 ?_
  refine V_iadd (pc := 6) X dJ8_newLength_cabcc_6 ?_
  rw [nl_eq hc hp]
  refine V_istore_n (pc := 7) X [(3, .int _), (0, .int _), (1, .int _), (2, .int _)] dJ8_newLength_cabcc_7 rfl (by decide) rfl ?_
  refine V_iconst (pc := 8) (v := 0) X dJ8_newLength_cabcc_8 (by decide) ?_
  refine V_iload_n (pc := 9) X 0 dJ8_newLength_cabcc_9 rfl ?_
  refine V_icmp_ge (pc := 10) X 21 dJ8_newLength_cabcc_10 (by decide) (fun c10 => ?_) (fun c10 => ?_)
  · exact absurd c10 (nI_nle (by omega) (by omega))
  · refine V_iload_n (pc := 13) X 0 dJ8_newLength_cabcc_13 rfl ?_
    refine V_ldc (pc := 14) X lc_J8_200 dJ8_newLength_cabcc_14 ?_
    refine V_icmp_gt (pc := 16) X 21 dJ8_newLength_cabcc_16 (by decide) (fun c16 => ?_) (fun c16 => ?_)
    · exact absurd c16 (nI_nlt (Nat.le_trans (show c + max 1 p ≤ 80001 by omega) (by decide)) (by decide))
    · refine V_iload_n (pc := 19) X 0 dJ8_newLength_cabcc_19 rfl ?_
      refine V_iret (pc := 20) X Q rfl rfl dJ8_newLength_cabcc_20 ?_
      exact ⟨rfl, rfl⟩
theorem c_cpy3 {E : EV} {h : AH} {e c N u : Nat} {xs : List Nat} (hke : qK h e = 19) (hrow : qL h e = enc xs c) (hn : xs.length = c) (hN : c ≤ N) (hN2 : N < 60000) (ho : ∀ y ∈ xs, 1 ≤ qK h y ∧ qK h y ≤ 10) (hu : 3 ≤ u ∧ N ≤ 4 * u) : Ct E yJ7_copyOf_6403c cJ7_copyOf_6403c 4 (some (.array (.object "java/lang/Object"))) 2 u [.ref e, .int (nI N), .ref (eM E)] h (fun v h1 => ∃ q, v = some (.ref q) ∧ qK h q = 0 ∧ h1 = sR (sK h q 19) q (enc xs N)) noX := by
  refine Ct_of RJ7 (by decide +kernel) rfl (Nat.le_of_ble_eq_true rfl) (fun Γ X nt Q hin => ?_)
  refine V_aload_n (pc := 0) X 2 dJ7_copyOf_6403c_0 rfl ?_
  refine V_ldcM (pc := 1) X cm_J7_110 dJ7_copyOf_6403c_1 X.en.2.2.2.2.2.2.2.2.2 ?_
  refine V_acmp_ne (pc := 3) X 13 dJ7_copyOf_6403c_3 (by decide) (fun c3 => ?_) (fun c3 => ?_)
  · exact absurd rfl c3
  · refine V_iload_n (pc := 6) X 1 dJ7_copyOf_6403c_6 rfl ?_
    refine V_anew (pc := 7) X an_J7_2 (u := u) (nI_pos (by omega)) (N := N) (nI_clamp (by omega)) (by omega) ⟨hu.1, hu.2, Nat.le_refl _⟩ dJ7_copyOf_6403c_7 (fun q7 hq7 => ?_)
    have heq : e ≠ q7 := fun z => by rw [← z, hke] at hq7; omega
    have hk2 : qK (sR (sK h q7 19) q7 (List.replicate N 0)) e = 19 := by rw [qK_sL, qK_sK, if_neg heq]; exact hke
    have hk3 : qK (sR (sK h q7 19) q7 (List.replicate N 0)) q7 = 19 := by rw [qK_sL, qK_sK, if_pos rfl]
    have hl2 : qL (sR (sK h q7 19) q7 (List.replicate N 0)) e = enc xs c := by rw [qL_sL, if_neg heq]; exact hrow
    have hl3 : qL (sR (sK h q7 19) q7 (List.replicate N 0)) q7 = List.replicate N 0 := by rw [qL_sL, if_pos rfl]
    refine V_goto (pc := 10) X 24 dJ7_copyOf_6403c_10 (by decide) ?_
    refine V_astore_n (pc := 24) X [(3, .ref _), (0, .ref _), (1, .int _), (2, .ref _)] dJ7_copyOf_6403c_24 rfl (by decide) rfl ?_
    refine V_aload_n (pc := 25) X 1 dJ7_copyOf_6403c_25 rfl ?_
    refine V_iconst (pc := 26) (v := 0) X dJ7_copyOf_6403c_26 (by decide) ?_
    refine V_aload_n (pc := 27) X 0 dJ7_copyOf_6403c_27 rfl ?_
    refine V_iconst (pc := 28) (v := 0) X dJ7_copyOf_6403c_28 (by decide) ?_
    refine V_aload_n (pc := 29) X 1 dJ7_copyOf_6403c_29 rfl ?_
    refine V_alen (pc := 30) X hk2 dJ7_copyOf_6403c_30 ?_
    rw [hl2, enc_len (by omega)]
    refine V_iload_n (pc := 31) X 2 dJ7_copyOf_6403c_31 rfl ?_
    refine V_mmin (pc := 32) X mm_J7_304 ⟨Q.fr (by decide), Q.lo (by decide)⟩ (Nat.le_of_ble_eq_true rfl) dJ7_copyOf_6403c_32 ?_
    rw [if_neg (nI_nlt (by omega) (by omega))]
    refine V_copy (pc := 35) X ay_J7_150 hk2 hk3 (by decide) (by decide) (nI_pos (by omega)) (by rw [hl2, enc_len (by omega), nI_clamp (by omega)]; show 0 + c ≤ c; omega) (by rw [hl3, List.length_replicate, nI_clamp (by omega)]; show 0 + c ≤ N; omega) (fun i hi y hy => by
        rw [hl2] at hy
        have hm := ho y (rdc_enc hy)
        rw [qK_sL, qK_sK, if_neg (fun z => by rw [z, hq7] at hm; omega)]
        exact hm) ⟨Q.fr (by decide), Q.lo (by decide)⟩ (Nat.le_of_ble_eq_true rfl) dJ7_copyOf_6403c_35 ?_
    rw [hl2, hl3, nI_clamp (by omega), show (0 : Int32).toNatClampNeg = 0 from by decide, enc_grow hn hN, sR_sR]
    refine V_aload_n (pc := 38) X 0 dJ7_copyOf_6403c_38 rfl ?_
    refine V_arets (pc := 39) X Q rfl dJ7_copyOf_6403c_39 ?_
    exact ⟨q7, rfl, hq7, rfl⟩
theorem c_cpy2 {E : EV} {h : AH} {e c N u : Nat} {xs : List Nat} (hke : qK h e = 19) (hrow : qL h e = enc xs c) (hn : xs.length = c) (hN : c ≤ N) (hN2 : N < 60000) (ho : ∀ y ∈ xs, 1 ≤ qK h y ∧ qK h y ≤ 10) (hu : 3 ≤ u ∧ N ≤ 4 * u) : Ct E yJ7_copyOf_1904c cJ7_copyOf_1904c 2 (some (.array (.object "java/lang/Object"))) 3 u [.ref e, .int (nI N)] h (fun v h1 => ∃ q, v = some (.ref q) ∧ qK h q = 0 ∧ h1 = sR (sK h q 19) q (enc xs N)) noX := by
  refine Ct_of RJ7 (by decide +kernel) rfl (Nat.le_of_ble_eq_true rfl) (fun Γ X nt Q hin => ?_)
  refine V_aload_n (pc := 0) X 0 dJ7_copyOf_1904c_0 rfl ?_
  refine V_iload_n (pc := 1) X 1 dJ7_copyOf_1904c_1 rfl ?_
  refine V_aload_n (pc := 2) X 0 dJ7_copyOf_1904c_2 rfl ?_
  refine V_getC (pc := 3) X hke gc_J7_86 X.en.2.2.2.2.2.2.2.2.2 ⟨Q.fr (by decide), Q.lo (by decide)⟩ (Nat.le_of_ble_eq_true rfl) dJ7_copyOf_1904c_3 ?_
  refine V_callS (pc := 6) X _ (c_cpy3 hke hrow hn hN hN2 ho hu) cw_J7_300 (Q.room (by decide) (by decide)) rfl (Nat.le_of_ble_eq_true rfl) rfl (by omega) dJ7_copyOf_1904c_6 (fun _ _ z => z.elim) ?_
  rintro v6 h6 ⟨q6, rfl, hq6, rfl⟩
  simp only [Option.toList_some, List.cons_append, List.nil_append]
  refine V_arets (pc := 9) X Q rfl dJ7_copyOf_1904c_9 ?_
  exact ⟨q6, rfl, hq6, rfl⟩
theorem c_grow1Z {E : EV} {h : AH} {a c : Nat} {xs : List Nat} (hk : qK h a = 18) (he : qF h 1001 a = .ref (eZ E)) (hc : c = 0) (hx : xs = []) : Ct E yJx4a65c_grow_92f84 cJx4a65c_grow_92f84 4 (some (.array (.object "java/lang/Object"))) 4 10 [.ref a, .int (nI (c + 1))] h (fun v h1 => ∃ q, v = some (.ref q) ∧ qK h q = 0 ∧ h1 = gR1 h a q (enc xs (gcap c c))) noX := by
  refine Ct_of RJx4a65c (by decide +kernel) rfl (Nat.le_of_ble_eq_true rfl) (fun Γ X nt Q hin => ?_)
  subst hc hx
  refine V_aload_n (pc := 0) X 0 dJx4a65c_grow_92f84_0 rfl ?_
  refine V_getL (pc := 1) X fr_Jx4a65c_9 inW10 dJx4a65c_grow_92f84_1 hk he ?_
  refine V_alenZ (pc := 4) X dJx4a65c_grow_92f84_4 ?_
  refine V_istore_n (pc := 5) X [(2, .int _), (0, .ref _), (1, .int _)] dJx4a65c_grow_92f84_5 rfl (by decide) rfl ?_
  refine V_iload_n (pc := 6) X 0 dJx4a65c_grow_92f84_6 rfl ?_
  refine V_if_gt (pc := 7) X 20 dJx4a65c_grow_92f84_7 (by decide) (fun c7 => ?_) (fun c7 => ?_)
  · exact absurd c7 (by decide)
  · refine V_aload_n (pc := 10) X 1 dJx4a65c_grow_92f84_10 rfl ?_
    refine V_getL (pc := 11) X fr_Jx4a65c_9 inW10 dJx4a65c_grow_92f84_11 hk he ?_
    refine V_gets (pc := 14) X gs_Jx4a65c_39 dJx4a65c_grow_92f84_14 ?_
    refine V_acmp_eq (pc := 17) X 45 dJx4a65c_grow_92f84_17 (by decide) (fun c17 => ?_) (fun c17 => ?_)
    · refine V_aload_n (pc := 45) X 1 dJx4a65c_grow_92f84_45 rfl ?_
      refine V_bipush (pc := 46) (v := 10) X dJx4a65c_grow_92f84_46 (by decide) ?_
      refine V_iload_n (pc := 48) X 2 dJx4a65c_grow_92f84_48 rfl ?_
      refine V_mmax (pc := 49) X mm_Jx4a65c_79 ⟨Q.fr (by decide), Q.lo (by decide)⟩ (Nat.le_of_ble_eq_true rfl) dJx4a65c_grow_92f84_49 ?_
      rw [show (if (10 : Int32) < nI (0 + 1) then nI (0 + 1) else 10) = 10 from by decide]
      refine V_anew (pc := 52) X an_Jx4a65c_7 (u := 10) (by decide) (N := 10) (by decide) (by decide) ⟨by decide, by decide, Nat.le_refl _⟩ dJx4a65c_grow_92f84_52 (fun q52 hq52 => ?_)
      refine V_dup_x1 (pc := 55) X dJx4a65c_grow_92f84_55 rfl rfl ?_
      refine V_putL (pc := 56) X fr_Jx4a65c_9 inW10 dJx4a65c_grow_92f84_56 (by rw [qK_sL, qK_sK, if_neg (fun z => by rw [← z, hk] at hq52; omega)]; exact hk) ⟨rfl, rfl⟩ ?_
      refine V_arets (pc := 59) X Q rfl dJx4a65c_grow_92f84_59 ?_
      exact ⟨q52, rfl, hq52, rfl⟩
    · exact absurd rfl c17
theorem c_grow1 {E : EV} {h : AH} {a e c : Nat} {xs : List Nat} (hk : qK h a = 18) (he : qF h 1001 a = .ref e) (hke : qK h e = 19) (hrow : qL h e = enc xs c) (hn : xs.length = c) (h0 : 0 < c) (hc : c < 20000) (h10 : c = 0 ∨ 10 ≤ c) (ho : ∀ y ∈ xs, 1 ≤ qK h y ∧ qK h y ≤ 10) : Ct E yJx4a65c_grow_92f84 cJx4a65c_grow_92f84 4 (some (.array (.object "java/lang/Object"))) 4 (gcap c c - c) [.ref a, .int (nI (c + 1))] h (fun v h1 => ∃ q, v = some (.ref q) ∧ qK h q = 0 ∧ h1 = gR1 h a q (enc xs (gcap c c))) noX := by
  refine Ct_of RJx4a65c (by decide +kernel) rfl (Nat.le_of_ble_eq_true rfl) (fun Γ X nt Q hin => ?_)
  have hg : gcap c c = c + max 1 (c / 2) := by unfold gcap; rw [if_neg (by omega), if_neg (by omega)]
  refine V_aload_n (pc := 0) X 0 dJx4a65c_grow_92f84_0 rfl ?_
  refine V_getL (pc := 1) X fr_Jx4a65c_9 inW10 dJx4a65c_grow_92f84_1 hk he ?_
  refine V_alen (pc := 4) X hke dJx4a65c_grow_92f84_4 ?_
  rw [hrow, enc_len (by omega)]
  refine V_istore_n (pc := 5) X [(2, .int _), (0, .ref _), (1, .int _)] dJx4a65c_grow_92f84_5 rfl (by decide) rfl ?_
  refine V_iload_n (pc := 6) X 0 dJx4a65c_grow_92f84_6 rfl ?_
  refine V_if_gt (pc := 7) X 20 dJx4a65c_grow_92f84_7 (by decide) (fun c7 => ?_) (fun c7 => ?_)
  · refine V_iload_n (pc := 20) X 0 dJx4a65c_grow_92f84_20 rfl ?_
    refine V_iload_n (pc := 21) X 2 dJx4a65c_grow_92f84_21 rfl ?_
    refine V_iload_n (pc := 22) X 0 dJx4a65c_grow_92f84_22 rfl ?_
    refine V_isub (pc := 23) X dJx4a65c_grow_92f84_23 ?_
    rw [show nI (c + 1) - nI c = nI 1 from by rw [pk_sub (by omega)]; congr 1; omega]
    refine V_iload_n (pc := 24) X 0 dJx4a65c_grow_92f84_24 rfl ?_
    refine V_iconst (pc := 25) (v := 1) X dJx4a65c_grow_92f84_25 (by decide) ?_
    refine V_ishr (pc := 26) X dJx4a65c_grow_92f84_26 (fun v26 ev26 => ?_)
    obtain rfl : v26 = nI (c / 2) := by rw [ev26, pk_shrN (n := c) (by omega) ((1 : Int32) &&& 31) 1 (by decide)]
    refine V_callS (pc := 27) X _ (c_newlen (by omega) (by omega)) cw_Jx4a65c_73 (Q.room (by decide) (by decide)) rfl (Nat.le_of_ble_eq_true rfl) rfl (by omega) dJx4a65c_grow_92f84_27 (fun _ _ z => z.elim) ?_
    rintro v27 h27 ⟨rfl, rfl⟩
    simp only [Option.toList_some, List.cons_append, List.nil_append]
    refine V_istore_n (pc := 30) X [(3, .int _), (2, .int _), (0, .ref _), (1, .int _)] dJx4a65c_grow_92f84_30 rfl (by decide) rfl ?_
    refine V_aload_n (pc := 31) X 2 dJx4a65c_grow_92f84_31 rfl ?_
    refine V_aload_n (pc := 32) X 2 dJx4a65c_grow_92f84_32 rfl ?_
    refine V_getL (pc := 33) X fr_Jx4a65c_9 inW10 dJx4a65c_grow_92f84_33 hk he ?_
    refine V_iload_n (pc := 36) X 0 dJx4a65c_grow_92f84_36 rfl ?_
    refine V_callS (pc := 37) X _ (c_cpy2 (u := gcap c c - c) hke hrow hn (by omega) (by omega) ho ⟨by omega, by omega⟩) cw_Jx4a65c_66 (Q.room (by decide) (by decide)) rfl (Nat.le_of_ble_eq_true rfl) rfl (by omega) dJx4a65c_grow_92f84_37 (fun _ _ z => z.elim) ?_
    rintro v37 h37 ⟨q37, rfl, hq37, rfl⟩
    simp only [Option.toList_some, List.cons_append, List.nil_append]
    refine V_dup_x1 (pc := 40) X dJx4a65c_grow_92f84_40 rfl rfl ?_
    refine V_putL (pc := 41) X fr_Jx4a65c_9 inW10 dJx4a65c_grow_92f84_41 (by rw [qK_sL, qK_sK, if_neg (fun z => by rw [← z, hk] at hq37; omega)]; exact hk) ⟨rfl, rfl⟩ ?_
    refine V_arets (pc := 44) X Q rfl dJx4a65c_grow_92f84_44 ?_
    exact ⟨q37, rfl, hq37, by rw [hg]⟩
  · exact absurd (nI_lt h0 (by omega)) c7
theorem c_grow1A {E : EV} {h : AH} {a e c : Nat} {xs : List Nat} (hk : qK h a = 18) (he : qF h 1001 a = .ref e) (hz : c = 0 → e = eZ E) (hke : 0 < c → qK h e = 19 ∧ qL h e = enc xs c) (hn : xs.length = c) (hc : c < 20000) (h10 : c = 0 ∨ 10 ≤ c) (ho : ∀ y ∈ xs, 1 ≤ qK h y ∧ qK h y ≤ 10) : Ct E yJx4a65c_grow_92f84 cJx4a65c_grow_92f84 4 (some (.array (.object "java/lang/Object"))) 4 (gcap c c - c) [.ref a, .int (nI (c + 1))] h (fun v h1 => ∃ q, v = some (.ref q) ∧ qK h q = 0 ∧ h1 = gR1 h a q (enc xs (gcap c c))) noX := by
  rcases Nat.eq_zero_or_pos c with z | z
  · have hx : xs = [] := List.length_eq_zero_iff.mp (by omega)
    have := c_grow1Z (E := E) (h := h) (a := a) (c := c) (xs := xs) hk (by rw [he, hz z]) z hx
    subst z
    exact this
  · exact c_grow1 hk he (hke z).1 (hke z).2 hn z hc h10 ho
theorem c_grow0 {E : EV} {h : AH} {a e c : Nat} {xs : List Nat} (hk : qK h a = 18) (he : qF h 1001 a = .ref e) (hz : c = 0 → e = eZ E) (hke : 0 < c → qK h e = 19 ∧ qL h e = enc xs c) (hs : qF h 1002 a = .int (nI xs.length)) (hn : xs.length = c) (hc : c < 20000) (h10 : c = 0 ∨ 10 ≤ c) (ho : ∀ y ∈ xs, 1 ≤ qK h y ∧ qK h y ≤ 10) : Ct E yJx4a65c_grow_d5877 cJx4a65c_grow_d5877 1 (some (.array (.object "java/lang/Object"))) 5 (gcap c c - c) [.ref a] h (fun v h1 => ∃ q, v = some (.ref q) ∧ qK h q = 0 ∧ h1 = gR1 h a q (enc xs (gcap c c))) noX := by
  refine Ct_of RJx4a65c (by decide +kernel) rfl (Nat.le_of_ble_eq_true rfl) (fun Γ X nt Q hin => ?_)
  refine V_aload_n (pc := 0) X 0 dJx4a65c_grow_d5877_0 rfl ?_
  refine V_aload_n (pc := 1) X 0 dJx4a65c_grow_d5877_1 rfl ?_
  refine V_getL (pc := 2) X fr_Jx4a65c_48 inW10 dJx4a65c_grow_d5877_2 hk hs ?_
  refine V_iconst (pc := 5) (v := 1) X dJx4a65c_grow_d5877_5 (by decide) ?_
  refine V_iadd (pc := 6) X dJx4a65c_grow_d5877_6 ?_
  rw [nI_1, hn]
  refine V_callL (pc := 7) X (Or.inr hk) _ (c_grow1A hk he hz hke hn hc h10 ho) cw_Jx4a65c_69 (Q.room (by decide) (by decide)) rfl (Nat.le_of_ble_eq_true rfl) rfl (by omega) dJx4a65c_grow_d5877_7 (fun _ _ z => z.elim) ?_
  rintro v7 h7 ⟨q7, rfl, hq7, rfl⟩
  simp only [Option.toList_some, List.cons_append, List.nil_append]
  refine V_arets (pc := 10) X Q rfl dJx4a65c_grow_d5877_10 ?_
  exact ⟨q7, rfl, hq7, rfl⟩
