theorem c_clear {E : EV} {h : AH} {a : Nat} (hk : qK h a = 11) : Ct E yJx4a65c_clear_da8c8 cJx4a65c_clear_da8c8 4 none 1 0 [.ref a] h (fun v h1 => v = none ∧ h1 = sL h a [] (qC h a)) noX := by
  refine Ct_of RJx4a65c (by decide +kernel) rfl (Nat.le_of_ble_eq_true rfl) (fun Γ X nt Q hin => ?_)
  refine V_open X hk (fun e m z0 z1 => ?_)
  have ok : ∀ z, 1 ≤ qK h z ∧ qK h z ≤ 10 → 1 ≤ qK (rawL h a e m) z ∧ qK (rawL h a e m) z ≤ 10 := fun z hz => by
    rw [show qK (rawL h a e m) z = (if z = a then 18 else if z = e ∧ 0 < qC h a then 19 else qK h z) from rfl, if_neg (fun y => by rw [y, hk] at hz; omega), if_neg (fun y => by rw [y.1, (z1 y.2).1] at hz; omega)]
    exact hz
  have ra : qK (rawL h a e m) a = 18 := by simp [qK, rawL]
  have rm : qF (rawL h a e m) 1000 a = .int m := by simp [qF, rawL]
  have re : qF (rawL h a e m) 1001 a = .ref e := by simp [qF, rawL]
  have rs : qF (rawL h a e m) 1002 a = .int (nI (qL h a).length) := by simp [qF, rawL]
  have rk : 0 < qC h a → qK (rawL h a e m) e = 19 ∧ qL (rawL h a e m) e = enc (qL h a) (qC h a) := fun z => ⟨by simp [qK, rawL, (z1 z).2.1, z], raw_row z⟩
  have rl : (qL h a).length ≤ qC h a := by
    rcases Nat.eq_zero_or_pos (qC h a) with z | z
    · rw [(z0 z).2]; exact Nat.zero_le _
    · exact (z1 z).2.2.1
  have h10 : qC h a = 0 ∨ 10 ≤ qC h a := by
    rcases Nat.eq_zero_or_pos (qC h a) with z | z
    · exact Or.inl z
    · exact Or.inr (z1 z).2.2.2.1
  have hll : (qL h a).length < 40000 := by
    rcases Nat.eq_zero_or_pos (qC h a) with z | z
    · omega
    · have := (z1 z).2.2.2; omega
  refine V_aload_n (pc := 0) X 0 dJx4a65c_clear_da8c8_0 rfl ?_
  refine V_dup (pc := 1) X dJx4a65c_clear_da8c8_1 rfl ?_
  refine V_getL (pc := 2) X fr_Jx4a65c_63 inW10 dJx4a65c_clear_da8c8_2 ra rm ?_
  refine V_iconst (pc := 5) (v := 1) X dJx4a65c_clear_da8c8_5 (by decide) ?_
  refine V_iadd (pc := 6) X dJx4a65c_clear_da8c8_6 ?_
  refine V_putL (pc := 7) X fr_Jx4a65c_63 inW10 dJx4a65c_clear_da8c8_7 ra ⟨rfl, rfl⟩ ?_
  refine V_aload_n (pc := 10) X 0 dJx4a65c_clear_da8c8_10 rfl ?_
  refine V_getL (pc := 11) X fr_Jx4a65c_9 inW10 dJx4a65c_clear_da8c8_11 ra (v := .ref e) (by rw [qF_sF, if_neg (fun z => by omega)]; exact re) ?_
  refine V_astore_n (pc := 14) X [(1, .ref _), (0, .ref _)] dJx4a65c_clear_da8c8_14 rfl (by decide) rfl ?_
  refine V_aload_n (pc := 15) X 1 dJx4a65c_clear_da8c8_15 rfl ?_
  refine V_getL (pc := 16) X fr_Jx4a65c_48 inW10 dJx4a65c_clear_da8c8_16 ra (v := .int (nI (qL h a).length)) (by rw [qF_sF, if_neg (fun z => by omega)]; exact rs) ?_
  refine V_istore_n (pc := 19) X [(2, .int _), (1, .ref _), (0, .ref _)] dJx4a65c_clear_da8c8_19 rfl (by decide) rfl ?_
  refine V_aload_n (pc := 20) X 2 dJx4a65c_clear_da8c8_20 rfl ?_
  refine V_iconst (pc := 21) (v := 0) X dJx4a65c_clear_da8c8_21 (by decide) ?_
  refine V_dup_x1 (pc := 22) X dJx4a65c_clear_da8c8_22 rfl rfl ?_
  refine V_putL (pc := 23) X fr_Jx4a65c_48 inW10 dJx4a65c_clear_da8c8_23 ra ⟨rfl, rfl⟩ ?_
  refine V_istore_n (pc := 26) X [(3, .int _), (2, .int _), (1, .ref _), (0, .ref _)] dJx4a65c_clear_da8c8_26 rfl (by decide) rfl ?_
  have key : ∀ (n i : Nat), (qL h a).length - i < n → i ≤ (qL h a).length → ∀ hr : AH, (0 < qC h a → qL hr e = clr (enc (qL h a) (qC h a)) i) → qK hr = qK (rawL h a e m) → (∀ f b, qF hr f b = qF (sF (sF (rawL h a e m) 1000 a (.int (m + 1))) 1002 a (.int 0)) f b) → (∀ b, (b ≠ e ∨ ¬ 0 < qC h a) → qL hr b = qL (rawL h a e m) b) → (∀ b, qC hr b = qC h b) → (∀ b, qI hr b = qI h b) → V E Γ 0 hr 27 [(3, .int (nI i)), (2, .int (nI (qL h a).length)), (1, .ref e), (0, .ref a)] [] := by
    intro n
    induction n with
    | zero => exact fun i hn => absurd hn (Nat.not_lt_zero _)
    | succ n ih =>
      intro i hn hi hr r1 r2 r3 r4 r5 r6
      refine V_iload_n (pc := 27) X 0 dJx4a65c_clear_da8c8_27 rfl ?_
      refine V_iload_n (pc := 28) X 1 dJx4a65c_clear_da8c8_28 rfl ?_
      refine V_icmp_ge (pc := 29) X 42 dJx4a65c_clear_da8c8_29 (by decide) (fun c29 => ?_) (fun c29 => ?_)
      · have hie : i = (qL h a).length := by
          rcases Nat.lt_or_ge i (qL h a).length with z | z
          · exact absurd c29 (nI_ge z (by omega))
          · omega
        have f0 : qF hr 1000 a = .int (m + 1) := by rw [r3, qF_sF, if_neg (fun z => by omega), qF_sF, if_pos ⟨rfl, rfl⟩]
        have f1 : qF hr 1001 a = .ref e := by rw [r3, qF_sF, if_neg (fun z => by omega), qF_sF, if_neg (fun z => by omega)]; exact re
        have f2 : qF hr 1002 a = .int (nI ([] : List Nat).length) := by rw [r3, qF_sF, if_pos ⟨rfl, rfl⟩]; rfl
        refine cl_to (m := m + 1) (e := e) (xs := []) (c := qC h a) hk (by rw [r2]; exact ra) f0 f1 f2 ?_ (fun z => (z1 z).1) (fun b x1 x2 => ?_) (fun f b x1 => ?_) (fun b x1 x2 => ?_) (fun b _ _ => r5 b) (fun b _ => r6 b) ?_
        · rcases Nat.eq_zero_or_pos (qC h a) with z | z
          · exact Or.inl ⟨z, (z0 z).1, rfl⟩
          · exact Or.inr ⟨z, (z1 z).2.2.2, Nat.zero_le _, by rw [r2]; exact (rk z).1, by rw [r1 z, hie, clr_end rl]⟩
        · rw [r2]
          show (if b = a then 18 else if b = e ∧ 0 < qC h a then 19 else h.1 b) = h.1 b
          rw [if_neg x1, if_neg x2]
        · rw [r3, qF_sF, if_neg (fun z => x1 z.2), qF_sF, if_neg (fun z => x1 z.2)]
          simp [qF, rawL, x1]
        · have x3 : ¬ (b = e ∧ 0 < qC h a) := fun z => x2 (by rw [z.1]; exact (z1 z.2).1)
          rw [r4 b (by
            by_cases w : b = e
            · exact Or.inr (fun y => x3 ⟨w, y⟩)
            · exact Or.inl w)]
          show (if b = e ∧ 0 < qC h a then _ else h.2.2.1 b) = h.2.2.1 b
          rw [if_neg x3]
        refine V_vret (pc := 42) X Q rfl dJx4a65c_clear_da8c8_42 ?_
        exact ⟨rfl, rfl⟩
      · have hlt : i < (qL h a).length := by
          rcases Nat.lt_or_ge i (qL h a).length with z | z
          · exact z
          · exact absurd (nI_le z (by omega)) c29
        have hc0 : 0 < qC h a := by omega
        have hle : i < (qL hr e).length := by rw [r1 hc0, clr_len (by rw [enc_len rl]; omega), enc_len rl]; omega
        refine V_aload_n (pc := 32) X 2 dJx4a65c_clear_da8c8_32 rfl ?_
        refine V_iload_n (pc := 33) X 0 dJx4a65c_clear_da8c8_33 rfl ?_
        refine V_null (pc := 34) X dJx4a65c_clear_da8c8_34 ?_
        refine V_aastN (pc := 35) X (by rw [r2]; exact (rk hc0).1) (vp_in_nI hle (by rw [r1 hc0, clr_len (by rw [enc_len rl]; omega), enc_len rl]; have := (z1 hc0).2.2.2; omega)) dJx4a65c_clear_da8c8_35 ?_
        rw [r1 hc0, nI_clamp (by omega), clr_set (by rw [enc_len rl]; omega)]
        refine V_inc1 (pc := 36) X 0 [(3, .int _), (2, .int _), (1, .ref _), (0, .ref _)] dJx4a65c_clear_da8c8_36 rfl (by decide) rfl ?_
        rw [nI_1]
        refine V_goto (pc := 39) X 27 dJx4a65c_clear_da8c8_39 (by decide) ?_
        exact ih (i + 1) (by omega) (by omega) _ (fun _ => if_pos rfl) r2 (fun f b => r3 f b) (fun b hb => by
            show (if b = e then _ else qL hr b) = _
            rcases hb with hb | hb
            · rw [if_neg hb]; exact r4 b (Or.inl hb)
            · exact absurd hc0 hb) (fun b => by
            show (if b = e then qC hr e else qC hr b) = _
            split
            · next z => rw [z]; exact r5 e
            · exact r5 b) r6
  exact key ((qL h a).length + 1) 0 (by omega) (Nat.zero_le _) _ (fun z => by rw [clr_0]; exact (rk z).2) rfl (fun _ _ => rfl) (fun _ _ => rfl) (fun _ => rfl) (fun _ => rfl)
theorem c_acInit {E : EV} {h : AH} {a : Nat} : Ct E yJxa1e45_init_da8c8 cJxa1e45_init_da8c8 1 none 2 0 [.ref a] h (fun v h1 => v = none ∧ h1 = h) noX := by
  refine Ct_of RJxa1e45 (by decide +kernel) rfl (Nat.le_of_ble_eq_true rfl) (fun Γ X nt Q hin => ?_)
  refine V_aload_n (pc := 0) X 0 dJxa1e45_init_da8c8_0 rfl ?_
  refine V_objInit (pc := 1) X oi_Jxa1e45_1 ⟨Q.fr (by decide), Q.lo (by decide)⟩ (Nat.le_of_ble_eq_true rfl) dJxa1e45_init_da8c8_1 ?_
  refine V_vret (pc := 4) X Q rfl dJxa1e45_init_da8c8_4 ?_
  exact ⟨rfl, rfl⟩
theorem c_alInit {E : EV} {h : AH} {a : Nat} (hk : qK h a = 18) : Ct E yJxc12de_init_da8c8 cJxc12de_init_da8c8 1 none 3 0 [.ref a] h (fun v h1 => v = none ∧ h1 = sF h 1000 a (.int 0)) noX := by
  refine Ct_of RJxc12de (by decide +kernel) rfl (Nat.le_of_ble_eq_true rfl) (fun Γ X nt Q hin => ?_)
  refine V_aload_n (pc := 0) X 0 dJxc12de_init_da8c8_0 rfl ?_
  refine V_callI (pc := 1) X _ c_acInit cw_Jxc12de_1 (Q.room (by decide) (by decide)) rfl (Nat.le_of_ble_eq_true rfl) rfl (by omega) dJxc12de_init_da8c8_1 ?_
  rintro v1 h1 ⟨rfl, rfl⟩
  simp only [Option.toList_none, List.nil_append]
  refine V_aload_n (pc := 4) X 0 dJxc12de_init_da8c8_4 rfl ?_
  refine V_iconst (pc := 5) (v := 0) X dJxc12de_init_da8c8_5 (by decide) ?_
  refine V_putL (pc := 6) X fr_Jxc12de_7 inW10 dJxc12de_init_da8c8_6 hk ⟨rfl, rfl⟩ ?_
  refine V_vret (pc := 9) X Q rfl dJxc12de_init_da8c8_9 ?_
  exact ⟨rfl, rfl⟩
theorem c_listInit {E : EV} {h : AH} {q : Nat} (h0 : qK h q = 0) : Ct E yJx4a65c_init_da8c8 cJx4a65c_init_da8c8 1 none 4 0 [.ref q] (nO h q 18) (fun v h1 => v = none ∧ h1 = sL (sK h q 11) q [] 0) noX := by
  refine Ct_of RJx4a65c (by decide +kernel) rfl (Nat.le_of_ble_eq_true rfl) (fun Γ X nt Q hin => ?_)
  have hk : qK (nO h q 18) q = 18 := by rw [qK_nO, if_pos rfl]
  refine V_aload_n (pc := 0) X 0 dJx4a65c_init_da8c8_0 rfl ?_
  refine V_callI (pc := 1) X _ (c_alInit hk) cw_Jx4a65c_1 (Q.room (by decide) (by decide)) rfl (Nat.le_of_ble_eq_true rfl) rfl (by omega) dJx4a65c_init_da8c8_1 ?_
  rintro v1 h1 ⟨rfl, rfl⟩
  simp only [Option.toList_none, List.nil_append]
  refine V_aload_n (pc := 4) X 0 dJx4a65c_init_da8c8_4 rfl ?_
  refine V_gets (pc := 5) X gs_Jx4a65c_39 dJx4a65c_init_da8c8_5 ?_
  refine V_putL (pc := 8) X fr_Jx4a65c_9 inW10 dJx4a65c_init_da8c8_8 hk ⟨rfl, rfl⟩ ?_
  refine V_close (h1 := (fun b => if b = q then 11 else qK h b, qF (nO h q 18), (fun b => if b = q then [] else qL h b), (fun b => if b = q then 0 else qC h b), qI h)) (a := q) (e := eZ E) (c := 0) (m := 0) (xs := []) hk (by rw [qF_sF, if_neg (fun z => by omega), qF_sF, if_pos ⟨rfl, rfl⟩]) (by rw [qF_sF, if_pos ⟨rfl, rfl⟩]) (by rw [qF_sF, if_neg (fun z => by omega), qF_sF, if_neg (fun z => by omega), qF_nO, if_pos rfl]; rfl) (Or.inl ⟨rfl, rfl, rfl⟩) (fun b => ?_) (fun f b hb => ?_) (fun b => rfl) (fun b => rfl) rfl ?_
  · show (if b = q then 11 else qK h b) = if b = q then 11 else if b = eZ E ∧ 0 < 0 then 0 else (if b = q then 18 else qK h b)
    by_cases e1 : b = q
    · rw [if_pos e1, if_pos e1]
    · rw [if_neg e1, if_neg e1, if_neg (fun z => by omega), if_neg e1]
  · rw [qF_sF, if_neg (fun z => hb z.2), qF_sF, if_neg (fun z => hb z.2)]; rfl
  refine V_congr (h1 := sL (sK h q 11) q [] 0) rfl (fun f b hb => ?_) (fun b hb => ⟨rfl, rfl⟩) (fun b hb => rfl) (fun b hb => rfl) ?_
  · have hbq : b ≠ q := fun z => hb (by rw [z]; exact if_pos rfl)
    show qF h f b = if b = q then dfv f else qF h f b
    rw [if_neg hbq]
  refine V_vret (pc := 11) X Q rfl dJx4a65c_init_da8c8_11 ?_
  exact ⟨rfl, rfl⟩
