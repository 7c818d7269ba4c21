theorem c_letter {E : EV} {h : AH} {q : Nat} {c w : Int32} (hk : qK h q = 5) (hc : narrow .char (.int c) = .int c ∧ fits .char (.int c) = true) : Ct E yX4_init cX4_init 3 none 2 0 [.ref q, .int c, .int w] h (fun v h1 => v = none ∧ h1 = sF (sF h 400 q (.int c)) 401 q (.int w)) noX := by
  refine Ct_of RX4 (by decide +kernel) rfl (Nat.le_of_ble_eq_true rfl) (fun Γ X nt Q hin => ?_)
  refine V_aload_n (pc := 0) X 0 dX4_init_0 rfl ?_
  refine V_objInit (pc := 1) X oi_X4_1 ⟨Q.fr (by decide), Q.lo (by decide)⟩ (Nat.le_of_ble_eq_true rfl) dX4_init_1 ?_
  refine V_aload_n (pc := 4) X 0 dX4_init_4 rfl ?_
  refine V_iload_n (pc := 5) X 1 dX4_init_5 rfl ?_
  refine V_putF (pc := 6) X hin fl_X4_7 dX4_init_6 hk hc ?_
  refine V_aload_n (pc := 9) X 0 dX4_init_9 rfl ?_
  refine V_iload_n (pc := 10) X 2 dX4_init_10 rfl ?_
  refine V_putF (pc := 11) X hin fl_X4_13 dX4_init_11 hk ⟨rfl, rfl⟩ ?_
  refine V_vret (pc := 14) X Q rfl dX4_init_14 ?_
  exact ⟨rfl, rfl⟩
theorem c_kept {E : EV} {h : AH} {q l : Nat} {c w : Int32} (hk : qK h q = 4) (hc : narrow .boolean (.int c) = .int c ∧ fits .boolean (.int c) = true) : Ct E yX3_init cX3_init 4 none 2 0 [.ref q, .int c, .ref l, .int w] h (fun v h1 => v = none ∧ h1 = sF (sF (sF h 300 q (.int c)) 301 q (.ref l)) 302 q (.int w)) noX := by
  refine Ct_of RX3 (by decide +kernel) rfl (Nat.le_of_ble_eq_true rfl) (fun Γ X nt Q hin => ?_)
  refine V_aload_n (pc := 0) X 0 dX3_init_0 rfl ?_
  refine V_objInit (pc := 1) X oi_X3_1 ⟨Q.fr (by decide), Q.lo (by decide)⟩ (Nat.le_of_ble_eq_true rfl) dX3_init_1 ?_
  refine V_aload_n (pc := 4) X 0 dX3_init_4 rfl ?_
  refine V_iload_n (pc := 5) X 1 dX3_init_5 rfl ?_
  refine V_putF (pc := 6) X hin fl_X3_7 dX3_init_6 hk hc ?_
  refine V_aload_n (pc := 9) X 0 dX3_init_9 rfl ?_
  refine V_aload_n (pc := 10) X 2 dX3_init_10 rfl ?_
  refine V_putF (pc := 11) X hin fl_X3_13 dX3_init_11 hk ⟨rfl, rfl⟩ ?_
  refine V_aload_n (pc := 14) X 0 dX3_init_14 rfl ?_
  refine V_iload_n (pc := 15) X 3 dX3_init_15 rfl ?_
  refine V_put (pc := 16) X fl_X3_17 dX3_init_16 hk ⟨rfl, rfl⟩ ?_
  refine V_vret (pc := 19) X Q rfl dX3_init_19 ?_
  exact ⟨rfl, rfl⟩
theorem c_oper {E : EV} {h : AH} {q l : Nat} {c w z : Int32} (hk : qK h q = 7) (hc : narrow .char (.int c) = .int c ∧ fits .char (.int c) = true) : Ct E yX6_init cX6_init 5 none 2 0 [.ref q, .int w, .int c, .int z, .ref l] h (fun v h1 => v = none ∧ h1 = sF (sF (sF (sF h 600 q (.int w)) 602 q (.int c)) 603 q (.int z)) 601 q (.ref l)) noX := by
  refine Ct_of RX6 (by decide +kernel) rfl (Nat.le_of_ble_eq_true rfl) (fun Γ X nt Q hin => ?_)
  refine V_aload_n (pc := 0) X 0 dX6_init_0 rfl ?_
  refine V_objInit (pc := 1) X oi_X6_1 ⟨Q.fr (by decide), Q.lo (by decide)⟩ (Nat.le_of_ble_eq_true rfl) dX6_init_1 ?_
  refine V_aload_n (pc := 4) X 0 dX6_init_4 rfl ?_
  refine V_iload_n (pc := 5) X 1 dX6_init_5 rfl ?_
  refine V_putF (pc := 6) X hin fl_X6_7 dX6_init_6 hk ⟨rfl, rfl⟩ ?_
  refine V_aload_n (pc := 9) X 0 dX6_init_9 rfl ?_
  refine V_iload_n (pc := 10) X 2 dX6_init_10 rfl ?_
  refine V_put (pc := 11) X fl_X6_13 dX6_init_11 hk hc ?_
  refine V_aload_n (pc := 14) X 0 dX6_init_14 rfl ?_
  refine V_iload_n (pc := 15) X 3 dX6_init_15 rfl ?_
  refine V_put (pc := 16) X fl_X6_17 dX6_init_16 hk ⟨rfl, rfl⟩ ?_
  refine V_aload_n (pc := 19) X 0 dX6_init_19 rfl ?_
  refine V_aload (pc := 20) X 4 dX6_init_20 rfl ?_
  refine V_putF (pc := 22) X hin fl_X6_20 dX6_init_22 hk ⟨rfl, rfl⟩ ?_
  refine V_vret (pc := 25) X Q rfl dX6_init_25 ?_
  exact ⟨rfl, rfl⟩
/-- a new operation, behind its constructor -/
theorem OP_born {la : Nat → Nat} {h : AH} {q : Nat} (h0 : qK h q = 0) (k p x w : Nat) : OP la (sF (sF (sF (sF (nO h q 7) 600 q (.int (nI w))) 602 q (.int (kc k))) 603 q (.int (ps k p))) 601 q (.ref (la x))) q (k, p, x, w) ∧ ∀ S : Nat → Prop, Fr S h (sF (sF (sF (sF (nO h q 7) 600 q (.int (nI w))) 602 q (.int (kc k))) 603 q (.int (ps k p))) 601 q (.ref (la x))) := by
  refine ⟨⟨by rw [qK_sF, qK_sF, qK_sF, qK_sF, qK_nO, if_pos rfl], ?_, ?_, ?_, ?_⟩, fun S => ?_⟩
  · rw [qF_sF, if_neg (fun z => by omega), qF_sF, if_neg (fun z => by omega), qF_sF, if_neg (fun z => by omega), qF_sF, if_pos ⟨rfl, rfl⟩]
  · rw [qF_sF, if_pos ⟨rfl, rfl⟩]
  · rw [qF_sF, if_neg (fun z => by omega), qF_sF, if_neg (fun z => by omega), qF_sF, if_pos ⟨rfl, rfl⟩]
  · rw [qF_sF, if_neg (fun z => by omega), qF_sF, if_pos ⟨rfl, rfl⟩]
  · refine ((((Fr_nO (S := fun b => b = q) h0).seq (Fr_sF rfl)).seq (Fr_sF rfl)).seq (Fr_sF rfl)).seq (Fr_sF rfl) |>.mono (fun a ha z => ?_)
    exact absurd (by rw [z]; exact h0) ha
theorem c_copy {E : EV} {la : Nat → Nat} {h : AH} {a k p x w : Nat} (ho : OP la h a (k, p, x, w)) : Ct E yX6_copy cX6_copy 1 (some (.object "Couplet$Operation")) 3 3 [.ref a] h (fun v h1 => ∃ q, v = some (.ref q) ∧ qK h q = 0 ∧ OP la h1 q (k, p, x, w) ∧ ∀ S : Nat → Prop, Fr S h h1) noX := by
  refine Ct_of RX6 (by decide +kernel) rfl (Nat.le_of_ble_eq_true rfl) (fun Γ X nt Q hin => ?_)
  obtain ⟨o1, o2, o3, o4, o5⟩ := ho
  refine V_new (pc := 0) (u := 3) X clk6 (by decide) nw_X6_8 (by decide) (by omega) dX6_copy_0 (fun q h0 => ?_)
  have hqa : a ≠ q := fun z => by rw [← z] at h0; omega
  have hk7 : qK (nO h q 7) a = 7 := by rw [qK_nO, if_neg hqa]; exact o1
  have hF : ∀ f, qF (nO h q 7) f a = qF h f a := fun f => by rw [qF_nO, if_neg hqa]
  refine V_dup (pc := 3) X dX6_copy_3 rfl ?_
  refine V_aload_n (pc := 4) X 0 dX6_copy_4 rfl ?_
  refine V_get (pc := 5) X fl_X6_7 dX6_copy_5 hk7 (v := .int (nI w)) ((hF _).trans o2) ?_
  refine V_aload_n (pc := 8) X 0 dX6_copy_8 rfl ?_
  refine V_get (pc := 9) X fl_X6_13 dX6_copy_9 hk7 (v := .int (kc k)) ((hF _).trans o4) ?_
  refine V_aload_n (pc := 12) X 0 dX6_copy_12 rfl ?_
  refine V_get (pc := 13) X fl_X6_17 dX6_copy_13 hk7 (v := .int (ps k p)) ((hF _).trans o5) ?_
  refine V_aload_n (pc := 16) X 0 dX6_copy_16 rfl ?_
  refine V_get (pc := 17) X fl_X6_20 dX6_copy_17 hk7 (v := .ref (la x)) ((hF _).trans o3) ?_
  refine V_callI (pc := 20) X _ (c_oper (by rw [qK_nO, if_pos rfl]) (kc_fit k)) cw_X6_24 (Q.room (by decide) (by decide)) rfl (Nat.le_of_ble_eq_true rfl) rfl (by omega) dX6_copy_20 ?_
  rintro v20 h20 ⟨rfl, rfl⟩
  simp only [Option.toList_none, List.nil_append]
  refine V_aret (pc := 23) X Q rfl dX6_copy_23 ?_
  exact ⟨q, rfl, h0, (OP_born h0 k p x w).1, (OP_born h0 k p x w).2⟩
theorem c_byIns {E : EV} {la : Nat → Nat} {h : AH} {a k p x w : Nat} (ho : OP la h a (k, p, x, w)) {r g : Nat} (hk : k ≤ 2) (hp : p < 2 ^ 30) (hr : r < 2 ^ 30) (hg : g < 2 ^ 30) : Ct E yX6_transformByInsertion cX6_transformByInsertion 4 none 1 0 [.ref a, .int (nI r), .int (nI g)] h (fun v h1 => v = none ∧ OP la h1 a (trf (k, p, x, w) 1 r g) ∧ Fr (fun b => b = a) h h1) noX := by
  refine Ct_of RX6 (by decide +kernel) rfl (Nat.le_of_ble_eq_true rfl) (fun Γ X nt Q hin => ?_)
  obtain ⟨o1, o2, o3, o4, o5⟩ := id ho
  refine V_aload_n (pc := 0) X 0 dX6_transformByInsertion_0 rfl ?_
  refine V_get (pc := 1) X fl_X6_13 dX6_transformByInsertion_1 o1 o4 ?_
  refine V_bipush (pc := 4) (v := 100) X dX6_transformByInsertion_4 (by decide) ?_
  refine V_icmp_eq (pc := 6) X 13 dX6_transformByInsertion_6 (by decide) (fun c6 => ?_) (fun c6 => ?_)
  · refine V_iconst (pc := 13) (v := 1) X dX6_transformByInsertion_13 (by decide) ?_
    refine V_goto (pc := 14) X 18 dX6_transformByInsertion_14 (by decide) ?_
    refine V_istore_n (pc := 18) X [(3, .int _), (0, .ref _), (1, .int _), (2, .int _)] dX6_transformByInsertion_18 rfl (by decide) rfl ?_
    refine V_aload_n (pc := 19) X 1 dX6_transformByInsertion_19 rfl ?_
    refine V_get (pc := 20) X fl_X6_13 dX6_transformByInsertion_20 o1 o4 ?_
    refine V_bipush (pc := 23) (v := 110) X dX6_transformByInsertion_23 (by decide) ?_
    refine V_icmp_eq (pc := 25) X 58 dX6_transformByInsertion_25 (by decide) (fun c25 => ?_) (fun c25 => ?_)
    · have k0 : k = 0 := (kc_0 hk).mp c25
      refine V_vret (pc := 58) X Q rfl dX6_transformByInsertion_58 ?_
      first
      | (exact absurd c45 (by decide))
      | (exact absurd rfl c45)
      | (have hg0 : nI g = 0 ↔ g = 0 := nI_eq (b := 0) (by omega) (by decide)
         have hlt : nI r < nI p ↔ r < p := nI_ltI (by omega) (by omega)
         have heq : nI r = nI p ↔ r = p := nI_eq (by omega) (by omega)
         have hk2 := kc_2 k
         simp only [hk2, hg0, hlt, heq] at *
         first
         | (refine ⟨trivial, ?_, Fr_sF rfl⟩
            rw [show trf (k, p, x, w) 1 r g = (k, p + 1, x, w) from by
             unfold trf; dsimp only; split <;> (try split) <;> (try split) <;> first | rfl | (exfalso; omega)]
            exact OP.setp ho (by rw [ps_p _ k0]))
         | (refine ⟨trivial, ?_, Fr.refl _ _⟩
            rw [show trf (k, p, x, w) 1 r g = (k, p, x, w) from by
             unfold trf; dsimp only; split <;> (try split) <;> (try split) <;> first | rfl | (exfalso; omega)]
            exact ho))
    · have k0 : k ≠ 0 := fun z => c25 ((kc_0 hk).mpr z)
      refine V_iload_n (pc := 28) X 2 dX6_transformByInsertion_28 rfl ?_
      refine V_aload_n (pc := 29) X 1 dX6_transformByInsertion_29 rfl ?_
      refine V_get (pc := 30) X fl_X6_17 dX6_transformByInsertion_30 o1 (o5.trans (by rw [ps_p p k0])) ?_
      refine V_icmp_lt (pc := 33) X 48 dX6_transformByInsertion_33 (by decide) (fun c33 => ?_) (fun c33 => ?_)
      · refine V_aload_n (pc := 48) X 1 dX6_transformByInsertion_48 rfl ?_
        refine V_dup (pc := 49) X dX6_transformByInsertion_49 rfl ?_
        refine V_get (pc := 50) X fl_X6_17 dX6_transformByInsertion_50 o1 (o5.trans (by rw [ps_p p k0])) ?_
        refine V_iconst (pc := 53) (v := 1) X dX6_transformByInsertion_53 (by decide) ?_
        refine V_iadd (pc := 54) X dX6_transformByInsertion_54 ?_
        rw [nI_1]
        refine V_put (pc := 55) X fl_X6_17 dX6_transformByInsertion_55 o1 ⟨rfl, rfl⟩ ?_
        refine V_vret (pc := 58) X Q rfl dX6_transformByInsertion_58 ?_
        first
        | (exact absurd c45 (by decide))
        | (exact absurd rfl c45)
        | (have hg0 : nI g = 0 ↔ g = 0 := nI_eq (b := 0) (by omega) (by decide)
           have hlt : nI r < nI p ↔ r < p := nI_ltI (by omega) (by omega)
           have heq : nI r = nI p ↔ r = p := nI_eq (by omega) (by omega)
           have hk2 := kc_2 k
           simp only [hk2, hg0, hlt, heq] at *
           first
           | (refine ⟨trivial, ?_, Fr_sF rfl⟩
              rw [show trf (k, p, x, w) 1 r g = (k, p + 1, x, w) from by
               unfold trf; dsimp only; split <;> (try split) <;> (try split) <;> first | rfl | (exfalso; omega)]
              exact OP.setp ho (by rw [ps_p _ k0]))
           | (refine ⟨trivial, ?_, Fr.refl _ _⟩
              rw [show trf (k, p, x, w) 1 r g = (k, p, x, w) from by
               unfold trf; dsimp only; split <;> (try split) <;> (try split) <;> first | rfl | (exfalso; omega)]
              exact ho))
      · refine V_iload_n (pc := 36) X 2 dX6_transformByInsertion_36 rfl ?_
        refine V_aload_n (pc := 37) X 1 dX6_transformByInsertion_37 rfl ?_
        refine V_get (pc := 38) X fl_X6_17 dX6_transformByInsertion_38 o1 (o5.trans (by rw [ps_p p k0])) ?_
        refine V_icmp_ne (pc := 41) X 58 dX6_transformByInsertion_41 (by decide) (fun c41 => ?_) (fun c41 => ?_)
        · refine V_vret (pc := 58) X Q rfl dX6_transformByInsertion_58 ?_
          first
          | (exact absurd c45 (by decide))
          | (exact absurd rfl c45)
          | (have hg0 : nI g = 0 ↔ g = 0 := nI_eq (b := 0) (by omega) (by decide)
             have hlt : nI r < nI p ↔ r < p := nI_ltI (by omega) (by omega)
             have heq : nI r = nI p ↔ r = p := nI_eq (by omega) (by omega)
             have hk2 := kc_2 k
             simp only [hk2, hg0, hlt, heq] at *
             first
             | (refine ⟨trivial, ?_, Fr_sF rfl⟩
                rw [show trf (k, p, x, w) 1 r g = (k, p + 1, x, w) from by
                 unfold trf; dsimp only; split <;> (try split) <;> (try split) <;> first | rfl | (exfalso; omega)]
                exact OP.setp ho (by rw [ps_p _ k0]))
             | (refine ⟨trivial, ?_, Fr.refl _ _⟩
                rw [show trf (k, p, x, w) 1 r g = (k, p, x, w) from by
                 unfold trf; dsimp only; split <;> (try split) <;> (try split) <;> first | rfl | (exfalso; omega)]
                exact ho))
        · refine V_iload_n (pc := 44) X 0 dX6_transformByInsertion_44 rfl ?_
          refine V_if_eq (pc := 45) X 58 dX6_transformByInsertion_45 (by decide) (fun c45 => ?_) (fun c45 => ?_)
          · refine V_vret (pc := 58) X Q rfl dX6_transformByInsertion_58 ?_
            first
            | (exact absurd c45 (by decide))
            | (exact absurd rfl c45)
            | (have hg0 : nI g = 0 ↔ g = 0 := nI_eq (b := 0) (by omega) (by decide)
               have hlt : nI r < nI p ↔ r < p := nI_ltI (by omega) (by omega)
               have heq : nI r = nI p ↔ r = p := nI_eq (by omega) (by omega)
               have hk2 := kc_2 k
               simp only [hk2, hg0, hlt, heq] at *
               first
               | (refine ⟨trivial, ?_, Fr_sF rfl⟩
                  rw [show trf (k, p, x, w) 1 r g = (k, p + 1, x, w) from by
                   unfold trf; dsimp only; split <;> (try split) <;> (try split) <;> first | rfl | (exfalso; omega)]
                  exact OP.setp ho (by rw [ps_p _ k0]))
               | (refine ⟨trivial, ?_, Fr.refl _ _⟩
                  rw [show trf (k, p, x, w) 1 r g = (k, p, x, w) from by
                   unfold trf; dsimp only; split <;> (try split) <;> (try split) <;> first | rfl | (exfalso; omega)]
                  exact ho))
          · refine V_aload_n (pc := 48) X 1 dX6_transformByInsertion_48 rfl ?_
            refine V_dup (pc := 49) X dX6_transformByInsertion_49 rfl ?_
            refine V_get (pc := 50) X fl_X6_17 dX6_transformByInsertion_50 o1 (o5.trans (by rw [ps_p p k0])) ?_
            refine V_iconst (pc := 53) (v := 1) X dX6_transformByInsertion_53 (by decide) ?_
            refine V_iadd (pc := 54) X dX6_transformByInsertion_54 ?_
            rw [nI_1]
            refine V_put (pc := 55) X fl_X6_17 dX6_transformByInsertion_55 o1 ⟨rfl, rfl⟩ ?_
            refine V_vret (pc := 58) X Q rfl dX6_transformByInsertion_58 ?_
            first
            | (exact absurd c45 (by decide))
            | (exact absurd rfl c45)
            | (have hg0 : nI g = 0 ↔ g = 0 := nI_eq (b := 0) (by omega) (by decide)
               have hlt : nI r < nI p ↔ r < p := nI_ltI (by omega) (by omega)
               have heq : nI r = nI p ↔ r = p := nI_eq (by omega) (by omega)
               have hk2 := kc_2 k
               simp only [hk2, hg0, hlt, heq] at *
               first
               | (refine ⟨trivial, ?_, Fr_sF rfl⟩
                  rw [show trf (k, p, x, w) 1 r g = (k, p + 1, x, w) from by
                   unfold trf; dsimp only; split <;> (try split) <;> (try split) <;> first | rfl | (exfalso; omega)]
                  exact OP.setp ho (by rw [ps_p _ k0]))
               | (refine ⟨trivial, ?_, Fr.refl _ _⟩
                  rw [show trf (k, p, x, w) 1 r g = (k, p, x, w) from by
                   unfold trf; dsimp only; split <;> (try split) <;> (try split) <;> first | rfl | (exfalso; omega)]
                  exact ho))
  · refine V_iload_n (pc := 9) X 2 dX6_transformByInsertion_9 rfl ?_
    refine V_if_ne (pc := 10) X 17 dX6_transformByInsertion_10 (by decide) (fun c10 => ?_) (fun c10 => ?_)
    · refine V_iconst (pc := 17) (v := 0) X dX6_transformByInsertion_17 (by decide) ?_
      refine V_istore_n (pc := 18) X [(3, .int _), (0, .ref _), (1, .int _), (2, .int _)] dX6_transformByInsertion_18 rfl (by decide) rfl ?_
      refine V_aload_n (pc := 19) X 1 dX6_transformByInsertion_19 rfl ?_
      refine V_get (pc := 20) X fl_X6_13 dX6_transformByInsertion_20 o1 o4 ?_
      refine V_bipush (pc := 23) (v := 110) X dX6_transformByInsertion_23 (by decide) ?_
      refine V_icmp_eq (pc := 25) X 58 dX6_transformByInsertion_25 (by decide) (fun c25 => ?_) (fun c25 => ?_)
      · have k0 : k = 0 := (kc_0 hk).mp c25
        refine V_vret (pc := 58) X Q rfl dX6_transformByInsertion_58 ?_
        first
        | (exact absurd c45 (by decide))
        | (exact absurd rfl c45)
        | (have hg0 : nI g = 0 ↔ g = 0 := nI_eq (b := 0) (by omega) (by decide)
           have hlt : nI r < nI p ↔ r < p := nI_ltI (by omega) (by omega)
           have heq : nI r = nI p ↔ r = p := nI_eq (by omega) (by omega)
           have hk2 := kc_2 k
           simp only [hk2, hg0, hlt, heq] at *
           first
           | (refine ⟨trivial, ?_, Fr_sF rfl⟩
              rw [show trf (k, p, x, w) 1 r g = (k, p + 1, x, w) from by
               unfold trf; dsimp only; split <;> (try split) <;> (try split) <;> first | rfl | (exfalso; omega)]
              exact OP.setp ho (by rw [ps_p _ k0]))
           | (refine ⟨trivial, ?_, Fr.refl _ _⟩
              rw [show trf (k, p, x, w) 1 r g = (k, p, x, w) from by
               unfold trf; dsimp only; split <;> (try split) <;> (try split) <;> first | rfl | (exfalso; omega)]
              exact ho))
      · have k0 : k ≠ 0 := fun z => c25 ((kc_0 hk).mpr z)
        refine V_iload_n (pc := 28) X 2 dX6_transformByInsertion_28 rfl ?_
        refine V_aload_n (pc := 29) X 1 dX6_transformByInsertion_29 rfl ?_
        refine V_get (pc := 30) X fl_X6_17 dX6_transformByInsertion_30 o1 (o5.trans (by rw [ps_p p k0])) ?_
        refine V_icmp_lt (pc := 33) X 48 dX6_transformByInsertion_33 (by decide) (fun c33 => ?_) (fun c33 => ?_)
        · refine V_aload_n (pc := 48) X 1 dX6_transformByInsertion_48 rfl ?_
          refine V_dup (pc := 49) X dX6_transformByInsertion_49 rfl ?_
          refine V_get (pc := 50) X fl_X6_17 dX6_transformByInsertion_50 o1 (o5.trans (by rw [ps_p p k0])) ?_
          refine V_iconst (pc := 53) (v := 1) X dX6_transformByInsertion_53 (by decide) ?_
          refine V_iadd (pc := 54) X dX6_transformByInsertion_54 ?_
          rw [nI_1]
          refine V_put (pc := 55) X fl_X6_17 dX6_transformByInsertion_55 o1 ⟨rfl, rfl⟩ ?_
          refine V_vret (pc := 58) X Q rfl dX6_transformByInsertion_58 ?_
          first
          | (exact absurd c45 (by decide))
          | (exact absurd rfl c45)
          | (have hg0 : nI g = 0 ↔ g = 0 := nI_eq (b := 0) (by omega) (by decide)
             have hlt : nI r < nI p ↔ r < p := nI_ltI (by omega) (by omega)
             have heq : nI r = nI p ↔ r = p := nI_eq (by omega) (by omega)
             have hk2 := kc_2 k
             simp only [hk2, hg0, hlt, heq] at *
             first
             | (refine ⟨trivial, ?_, Fr_sF rfl⟩
                rw [show trf (k, p, x, w) 1 r g = (k, p + 1, x, w) from by
                 unfold trf; dsimp only; split <;> (try split) <;> (try split) <;> first | rfl | (exfalso; omega)]
                exact OP.setp ho (by rw [ps_p _ k0]))
             | (refine ⟨trivial, ?_, Fr.refl _ _⟩
                rw [show trf (k, p, x, w) 1 r g = (k, p, x, w) from by
                 unfold trf; dsimp only; split <;> (try split) <;> (try split) <;> first | rfl | (exfalso; omega)]
                exact ho))
        · refine V_iload_n (pc := 36) X 2 dX6_transformByInsertion_36 rfl ?_
          refine V_aload_n (pc := 37) X 1 dX6_transformByInsertion_37 rfl ?_
          refine V_get (pc := 38) X fl_X6_17 dX6_transformByInsertion_38 o1 (o5.trans (by rw [ps_p p k0])) ?_
          refine V_icmp_ne (pc := 41) X 58 dX6_transformByInsertion_41 (by decide) (fun c41 => ?_) (fun c41 => ?_)
          · refine V_vret (pc := 58) X Q rfl dX6_transformByInsertion_58 ?_
            first
            | (exact absurd c45 (by decide))
            | (exact absurd rfl c45)
            | (have hg0 : nI g = 0 ↔ g = 0 := nI_eq (b := 0) (by omega) (by decide)
               have hlt : nI r < nI p ↔ r < p := nI_ltI (by omega) (by omega)
               have heq : nI r = nI p ↔ r = p := nI_eq (by omega) (by omega)
               have hk2 := kc_2 k
               simp only [hk2, hg0, hlt, heq] at *
               first
               | (refine ⟨trivial, ?_, Fr_sF rfl⟩
                  rw [show trf (k, p, x, w) 1 r g = (k, p + 1, x, w) from by
                   unfold trf; dsimp only; split <;> (try split) <;> (try split) <;> first | rfl | (exfalso; omega)]
                  exact OP.setp ho (by rw [ps_p _ k0]))
               | (refine ⟨trivial, ?_, Fr.refl _ _⟩
                  rw [show trf (k, p, x, w) 1 r g = (k, p, x, w) from by
                   unfold trf; dsimp only; split <;> (try split) <;> (try split) <;> first | rfl | (exfalso; omega)]
                  exact ho))
          · refine V_iload_n (pc := 44) X 0 dX6_transformByInsertion_44 rfl ?_
            refine V_if_eq (pc := 45) X 58 dX6_transformByInsertion_45 (by decide) (fun c45 => ?_) (fun c45 => ?_)
            · refine V_vret (pc := 58) X Q rfl dX6_transformByInsertion_58 ?_
              first
              | (exact absurd c45 (by decide))
              | (exact absurd rfl c45)
              | (have hg0 : nI g = 0 ↔ g = 0 := nI_eq (b := 0) (by omega) (by decide)
                 have hlt : nI r < nI p ↔ r < p := nI_ltI (by omega) (by omega)
                 have heq : nI r = nI p ↔ r = p := nI_eq (by omega) (by omega)
                 have hk2 := kc_2 k
                 simp only [hk2, hg0, hlt, heq] at *
                 first
                 | (refine ⟨trivial, ?_, Fr_sF rfl⟩
                    rw [show trf (k, p, x, w) 1 r g = (k, p + 1, x, w) from by
                     unfold trf; dsimp only; split <;> (try split) <;> (try split) <;> first | rfl | (exfalso; omega)]
                    exact OP.setp ho (by rw [ps_p _ k0]))
                 | (refine ⟨trivial, ?_, Fr.refl _ _⟩
                    rw [show trf (k, p, x, w) 1 r g = (k, p, x, w) from by
                     unfold trf; dsimp only; split <;> (try split) <;> (try split) <;> first | rfl | (exfalso; omega)]
                    exact ho))
            · refine V_aload_n (pc := 48) X 1 dX6_transformByInsertion_48 rfl ?_
              refine V_dup (pc := 49) X dX6_transformByInsertion_49 rfl ?_
              refine V_get (pc := 50) X fl_X6_17 dX6_transformByInsertion_50 o1 (o5.trans (by rw [ps_p p k0])) ?_
              refine V_iconst (pc := 53) (v := 1) X dX6_transformByInsertion_53 (by decide) ?_
              refine V_iadd (pc := 54) X dX6_transformByInsertion_54 ?_
              rw [nI_1]
              refine V_put (pc := 55) X fl_X6_17 dX6_transformByInsertion_55 o1 ⟨rfl, rfl⟩ ?_
              refine V_vret (pc := 58) X Q rfl dX6_transformByInsertion_58 ?_
              first
              | (exact absurd c45 (by decide))
              | (exact absurd rfl c45)
              | (have hg0 : nI g = 0 ↔ g = 0 := nI_eq (b := 0) (by omega) (by decide)
                 have hlt : nI r < nI p ↔ r < p := nI_ltI (by omega) (by omega)
                 have heq : nI r = nI p ↔ r = p := nI_eq (by omega) (by omega)
                 have hk2 := kc_2 k
                 simp only [hk2, hg0, hlt, heq] at *
                 first
                 | (refine ⟨trivial, ?_, Fr_sF rfl⟩
                    rw [show trf (k, p, x, w) 1 r g = (k, p + 1, x, w) from by
                     unfold trf; dsimp only; split <;> (try split) <;> (try split) <;> first | rfl | (exfalso; omega)]
                    exact OP.setp ho (by rw [ps_p _ k0]))
                 | (refine ⟨trivial, ?_, Fr.refl _ _⟩
                    rw [show trf (k, p, x, w) 1 r g = (k, p, x, w) from by
                     unfold trf; dsimp only; split <;> (try split) <;> (try split) <;> first | rfl | (exfalso; omega)]
                    exact ho))
    · refine V_iconst (pc := 13) (v := 1) X dX6_transformByInsertion_13 (by decide) ?_
      refine V_goto (pc := 14) X 18 dX6_transformByInsertion_14 (by decide) ?_
      refine V_istore_n (pc := 18) X [(3, .int _), (0, .ref _), (1, .int _), (2, .int _)] dX6_transformByInsertion_18 rfl (by decide) rfl ?_
      refine V_aload_n (pc := 19) X 1 dX6_transformByInsertion_19 rfl ?_
      refine V_get (pc := 20) X fl_X6_13 dX6_transformByInsertion_20 o1 o4 ?_
      refine V_bipush (pc := 23) (v := 110) X dX6_transformByInsertion_23 (by decide) ?_
      refine V_icmp_eq (pc := 25) X 58 dX6_transformByInsertion_25 (by decide) (fun c25 => ?_) (fun c25 => ?_)
      · have k0 : k = 0 := (kc_0 hk).mp c25
        refine V_vret (pc := 58) X Q rfl dX6_transformByInsertion_58 ?_
        first
        | (exact absurd c45 (by decide))
        | (exact absurd rfl c45)
        | (have hg0 : nI g = 0 ↔ g = 0 := nI_eq (b := 0) (by omega) (by decide)
           have hlt : nI r < nI p ↔ r < p := nI_ltI (by omega) (by omega)
           have heq : nI r = nI p ↔ r = p := nI_eq (by omega) (by omega)
           have hk2 := kc_2 k
           simp only [hk2, hg0, hlt, heq] at *
           first
           | (refine ⟨trivial, ?_, Fr_sF rfl⟩
              rw [show trf (k, p, x, w) 1 r g = (k, p + 1, x, w) from by
               unfold trf; dsimp only; split <;> (try split) <;> (try split) <;> first | rfl | (exfalso; omega)]
              exact OP.setp ho (by rw [ps_p _ k0]))
           | (refine ⟨trivial, ?_, Fr.refl _ _⟩
              rw [show trf (k, p, x, w) 1 r g = (k, p, x, w) from by
               unfold trf; dsimp only; split <;> (try split) <;> (try split) <;> first | rfl | (exfalso; omega)]
              exact ho))
      · have k0 : k ≠ 0 := fun z => c25 ((kc_0 hk).mpr z)
        refine V_iload_n (pc := 28) X 2 dX6_transformByInsertion_28 rfl ?_
        refine V_aload_n (pc := 29) X 1 dX6_transformByInsertion_29 rfl ?_
        refine V_get (pc := 30) X fl_X6_17 dX6_transformByInsertion_30 o1 (o5.trans (by rw [ps_p p k0])) ?_
        refine V_icmp_lt (pc := 33) X 48 dX6_transformByInsertion_33 (by decide) (fun c33 => ?_) (fun c33 => ?_)
        · refine V_aload_n (pc := 48) X 1 dX6_transformByInsertion_48 rfl ?_
          refine V_dup (pc := 49) X dX6_transformByInsertion_49 rfl ?_
          refine V_get (pc := 50) X fl_X6_17 dX6_transformByInsertion_50 o1 (o5.trans (by rw [ps_p p k0])) ?_
          refine V_iconst (pc := 53) (v := 1) X dX6_transformByInsertion_53 (by decide) ?_
          refine V_iadd (pc := 54) X dX6_transformByInsertion_54 ?_
          rw [nI_1]
          refine V_put (pc := 55) X fl_X6_17 dX6_transformByInsertion_55 o1 ⟨rfl, rfl⟩ ?_
          refine V_vret (pc := 58) X Q rfl dX6_transformByInsertion_58 ?_
          first
          | (exact absurd c45 (by decide))
          | (exact absurd rfl c45)
          | (have hg0 : nI g = 0 ↔ g = 0 := nI_eq (b := 0) (by omega) (by decide)
             have hlt : nI r < nI p ↔ r < p := nI_ltI (by omega) (by omega)
             have heq : nI r = nI p ↔ r = p := nI_eq (by omega) (by omega)
             have hk2 := kc_2 k
             simp only [hk2, hg0, hlt, heq] at *
             first
             | (refine ⟨trivial, ?_, Fr_sF rfl⟩
                rw [show trf (k, p, x, w) 1 r g = (k, p + 1, x, w) from by
                 unfold trf; dsimp only; split <;> (try split) <;> (try split) <;> first | rfl | (exfalso; omega)]
                exact OP.setp ho (by rw [ps_p _ k0]))
             | (refine ⟨trivial, ?_, Fr.refl _ _⟩
                rw [show trf (k, p, x, w) 1 r g = (k, p, x, w) from by
                 unfold trf; dsimp only; split <;> (try split) <;> (try split) <;> first | rfl | (exfalso; omega)]
                exact ho))
        · refine V_iload_n (pc := 36) X 2 dX6_transformByInsertion_36 rfl ?_
          refine V_aload_n (pc := 37) X 1 dX6_transformByInsertion_37 rfl ?_
          refine V_get (pc := 38) X fl_X6_17 dX6_transformByInsertion_38 o1 (o5.trans (by rw [ps_p p k0])) ?_
          refine V_icmp_ne (pc := 41) X 58 dX6_transformByInsertion_41 (by decide) (fun c41 => ?_) (fun c41 => ?_)
          · refine V_vret (pc := 58) X Q rfl dX6_transformByInsertion_58 ?_
            first
            | (exact absurd c45 (by decide))
            | (exact absurd rfl c45)
            | (have hg0 : nI g = 0 ↔ g = 0 := nI_eq (b := 0) (by omega) (by decide)
               have hlt : nI r < nI p ↔ r < p := nI_ltI (by omega) (by omega)
               have heq : nI r = nI p ↔ r = p := nI_eq (by omega) (by omega)
               have hk2 := kc_2 k
               simp only [hk2, hg0, hlt, heq] at *
               first
               | (refine ⟨trivial, ?_, Fr_sF rfl⟩
                  rw [show trf (k, p, x, w) 1 r g = (k, p + 1, x, w) from by
                   unfold trf; dsimp only; split <;> (try split) <;> (try split) <;> first | rfl | (exfalso; omega)]
                  exact OP.setp ho (by rw [ps_p _ k0]))
               | (refine ⟨trivial, ?_, Fr.refl _ _⟩
                  rw [show trf (k, p, x, w) 1 r g = (k, p, x, w) from by
                   unfold trf; dsimp only; split <;> (try split) <;> (try split) <;> first | rfl | (exfalso; omega)]
                  exact ho))
          · refine V_iload_n (pc := 44) X 0 dX6_transformByInsertion_44 rfl ?_
            refine V_if_eq (pc := 45) X 58 dX6_transformByInsertion_45 (by decide) (fun c45 => ?_) (fun c45 => ?_)
            · refine V_vret (pc := 58) X Q rfl dX6_transformByInsertion_58 ?_
              first
              | (exact absurd c45 (by decide))
              | (exact absurd rfl c45)
              | (have hg0 : nI g = 0 ↔ g = 0 := nI_eq (b := 0) (by omega) (by decide)
                 have hlt : nI r < nI p ↔ r < p := nI_ltI (by omega) (by omega)
                 have heq : nI r = nI p ↔ r = p := nI_eq (by omega) (by omega)
                 have hk2 := kc_2 k
                 simp only [hk2, hg0, hlt, heq] at *
                 first
                 | (refine ⟨trivial, ?_, Fr_sF rfl⟩
                    rw [show trf (k, p, x, w) 1 r g = (k, p + 1, x, w) from by
                     unfold trf; dsimp only; split <;> (try split) <;> (try split) <;> first | rfl | (exfalso; omega)]
                    exact OP.setp ho (by rw [ps_p _ k0]))
                 | (refine ⟨trivial, ?_, Fr.refl _ _⟩
                    rw [show trf (k, p, x, w) 1 r g = (k, p, x, w) from by
                     unfold trf; dsimp only; split <;> (try split) <;> (try split) <;> first | rfl | (exfalso; omega)]
                    exact ho))
            · refine V_aload_n (pc := 48) X 1 dX6_transformByInsertion_48 rfl ?_
              refine V_dup (pc := 49) X dX6_transformByInsertion_49 rfl ?_
              refine V_get (pc := 50) X fl_X6_17 dX6_transformByInsertion_50 o1 (o5.trans (by rw [ps_p p k0])) ?_
              refine V_iconst (pc := 53) (v := 1) X dX6_transformByInsertion_53 (by decide) ?_
              refine V_iadd (pc := 54) X dX6_transformByInsertion_54 ?_
              rw [nI_1]
              refine V_put (pc := 55) X fl_X6_17 dX6_transformByInsertion_55 o1 ⟨rfl, rfl⟩ ?_
              refine V_vret (pc := 58) X Q rfl dX6_transformByInsertion_58 ?_
              first
              | (exact absurd c45 (by decide))
              | (exact absurd rfl c45)
              | (have hg0 : nI g = 0 ↔ g = 0 := nI_eq (b := 0) (by omega) (by decide)
                 have hlt : nI r < nI p ↔ r < p := nI_ltI (by omega) (by omega)
                 have heq : nI r = nI p ↔ r = p := nI_eq (by omega) (by omega)
                 have hk2 := kc_2 k
                 simp only [hk2, hg0, hlt, heq] at *
                 first
                 | (refine ⟨trivial, ?_, Fr_sF rfl⟩
                    rw [show trf (k, p, x, w) 1 r g = (k, p + 1, x, w) from by
                     unfold trf; dsimp only; split <;> (try split) <;> (try split) <;> first | rfl | (exfalso; omega)]
                    exact OP.setp ho (by rw [ps_p _ k0]))
                 | (refine ⟨trivial, ?_, Fr.refl _ _⟩
                    rw [show trf (k, p, x, w) 1 r g = (k, p, x, w) from by
                     unfold trf; dsimp only; split <;> (try split) <;> (try split) <;> first | rfl | (exfalso; omega)]
                    exact ho))
theorem c_byDel {E : EV} {la : Nat → Nat} {h : AH} {a k p x w : Nat} (ho : OP la h a (k, p, x, w)) {r : Nat} (hk : k ≤ 2) (hp : p < 2 ^ 30) (hr : r < 2 ^ 30) : Ct E yX6_transformByDeletion cX6_transformByDeletion 2 none 1 0 [.ref a, .int (nI r)] h (fun v h1 => v = none ∧ OP la h1 a (trf (k, p, x, w) 2 r 0) ∧ Fr (fun b => b = a) h h1) noX := by
  refine Ct_of RX6 (by decide +kernel) rfl (Nat.le_of_ble_eq_true rfl) (fun Γ X nt Q hin => ?_)
  obtain ⟨o1, o2, o3, o4, o5⟩ := id ho
  refine V_aload_n (pc := 0) X 0 dX6_transformByDeletion_0 rfl ?_
  refine V_get (pc := 1) X fl_X6_13 dX6_transformByDeletion_1 o1 o4 ?_
  refine V_bipush (pc := 4) (v := 110) X dX6_transformByDeletion_4 (by decide) ?_
  refine V_icmp_eq (pc := 6) X 30 dX6_transformByDeletion_6 (by decide) (fun c6 => ?_) (fun c6 => ?_)
  · have k0 : k = 0 := (kc_0 hk).mp c6
    refine V_aload_n (pc := 30) X 0 dX6_transformByDeletion_30 rfl ?_
    refine V_get (pc := 31) X fl_X6_13 dX6_transformByDeletion_31 o1 o4 ?_
    refine V_bipush (pc := 34) (v := 100) X dX6_transformByDeletion_34 (by decide) ?_
    refine V_icmp_ne (pc := 36) X 58 dX6_transformByDeletion_36 (by decide) (fun c36 => ?_) (fun c36 => ?_)
    · refine V_vret (pc := 58) X Q rfl dX6_transformByDeletion_58 ?_
      have hlt : nI r < nI p ↔ r < p := nI_ltI (by omega) (by omega)
      have hle : nI p ≤ nI r ↔ p ≤ r := nI_leI (by omega) (by omega)
      have heq : nI r = nI p ↔ r = p := nI_eq (by omega) (by omega)
      have hk2 := kc_2 k
      have hk0 := kc_0 hk
      simp only [hk0, hk2, hlt, hle, heq] at *
      first
      | (refine ⟨trivial, ?_, Fr_sF rfl⟩
         rw [show trf (k, p, x, w) 2 r 0 = (k, p - 1, x, w) from by
          unfold trf; dsimp only; split <;> (try split) <;> (try split) <;> (try split) <;> first | rfl | (exfalso; omega)]
         exact OP.setp ho (by rw [ps_p _ (by assumption)]; exact nI_m1 (by omega)))
      | (refine ⟨trivial, ?_, (Fr_sF (S := fun b => b = a) rfl).seq (Fr_sF rfl)⟩
         rw [show trf (k, p, x, w) 2 r 0 = (0, 0, x, w) from by
          unfold trf; dsimp only; split <;> (try split) <;> (try split) <;> (try split) <;> first | rfl | (exfalso; omega)]
         exact OP.drop ho)
      | (refine ⟨trivial, ?_, Fr.refl _ _⟩
         rw [show trf (k, p, x, w) 2 r 0 = (k, p, x, w) from by
          unfold trf; dsimp only; split <;> (try split) <;> (try split) <;> (try split) <;> first | rfl | (exfalso; omega)]
         exact ho)
    · have k2 : k = 2 := (kc_2 k).mp c36
      refine V_iload_n (pc := 39) X 1 dX6_transformByDeletion_39 rfl ?_
      refine V_aload_n (pc := 40) X 0 dX6_transformByDeletion_40 rfl ?_
      refine V_get (pc := 41) X fl_X6_17 dX6_transformByDeletion_41 o1 (o5.trans (by rw [ps_p p (by omega)])) ?_
      refine V_icmp_ne (pc := 44) X 58 dX6_transformByDeletion_44 (by decide) (fun c44 => ?_) (fun c44 => ?_)
      · refine V_vret (pc := 58) X Q rfl dX6_transformByDeletion_58 ?_
        have hlt : nI r < nI p ↔ r < p := nI_ltI (by omega) (by omega)
        have hle : nI p ≤ nI r ↔ p ≤ r := nI_leI (by omega) (by omega)
        have heq : nI r = nI p ↔ r = p := nI_eq (by omega) (by omega)
        have hk2 := kc_2 k
        have hk0 := kc_0 hk
        simp only [hk0, hk2, hlt, hle, heq] at *
        first
        | (refine ⟨trivial, ?_, Fr_sF rfl⟩
           rw [show trf (k, p, x, w) 2 r 0 = (k, p - 1, x, w) from by
            unfold trf; dsimp only; split <;> (try split) <;> (try split) <;> (try split) <;> first | rfl | (exfalso; omega)]
           exact OP.setp ho (by rw [ps_p _ (by assumption)]; exact nI_m1 (by omega)))
        | (refine ⟨trivial, ?_, (Fr_sF (S := fun b => b = a) rfl).seq (Fr_sF rfl)⟩
           rw [show trf (k, p, x, w) 2 r 0 = (0, 0, x, w) from by
            unfold trf; dsimp only; split <;> (try split) <;> (try split) <;> (try split) <;> first | rfl | (exfalso; omega)]
           exact OP.drop ho)
        | (refine ⟨trivial, ?_, Fr.refl _ _⟩
           rw [show trf (k, p, x, w) 2 r 0 = (k, p, x, w) from by
            unfold trf; dsimp only; split <;> (try split) <;> (try split) <;> (try split) <;> first | rfl | (exfalso; omega)]
           exact ho)
      · refine V_aload_n (pc := 47) X 0 dX6_transformByDeletion_47 rfl ?_
        refine V_bipush (pc := 48) (v := 110) X dX6_transformByDeletion_48 (by decide) ?_
        refine V_put (pc := 50) X fl_X6_13 dX6_transformByDeletion_50 o1 ⟨by decide, by decide⟩ ?_
        refine V_aload_n (pc := 53) X 0 dX6_transformByDeletion_53 rfl ?_
        refine V_iconst (pc := 54) (v := (-1)) X dX6_transformByDeletion_54 (by decide) ?_
        refine V_put (pc := 55) X fl_X6_17 dX6_transformByDeletion_55 o1 ⟨rfl, rfl⟩ ?_
        refine V_vret (pc := 58) X Q rfl dX6_transformByDeletion_58 ?_
        have hlt : nI r < nI p ↔ r < p := nI_ltI (by omega) (by omega)
        have hle : nI p ≤ nI r ↔ p ≤ r := nI_leI (by omega) (by omega)
        have heq : nI r = nI p ↔ r = p := nI_eq (by omega) (by omega)
        have hk2 := kc_2 k
        have hk0 := kc_0 hk
        simp only [hk0, hk2, hlt, hle, heq] at *
        first
        | (refine ⟨trivial, ?_, Fr_sF rfl⟩
           rw [show trf (k, p, x, w) 2 r 0 = (k, p - 1, x, w) from by
            unfold trf; dsimp only; split <;> (try split) <;> (try split) <;> (try split) <;> first | rfl | (exfalso; omega)]
           exact OP.setp ho (by rw [ps_p _ (by assumption)]; exact nI_m1 (by omega)))
        | (refine ⟨trivial, ?_, (Fr_sF (S := fun b => b = a) rfl).seq (Fr_sF rfl)⟩
           rw [show trf (k, p, x, w) 2 r 0 = (0, 0, x, w) from by
            unfold trf; dsimp only; split <;> (try split) <;> (try split) <;> (try split) <;> first | rfl | (exfalso; omega)]
           exact OP.drop ho)
        | (refine ⟨trivial, ?_, Fr.refl _ _⟩
           rw [show trf (k, p, x, w) 2 r 0 = (k, p, x, w) from by
            unfold trf; dsimp only; split <;> (try split) <;> (try split) <;> (try split) <;> first | rfl | (exfalso; omega)]
           exact ho)
  · have k0 : k ≠ 0 := fun z => c6 ((kc_0 hk).mpr z)
    refine V_iload_n (pc := 9) X 1 dX6_transformByDeletion_9 rfl ?_
    refine V_aload_n (pc := 10) X 0 dX6_transformByDeletion_10 rfl ?_
    refine V_get (pc := 11) X fl_X6_17 dX6_transformByDeletion_11 o1 (o5.trans (by rw [ps_p p k0])) ?_
    refine V_icmp_ge (pc := 14) X 30 dX6_transformByDeletion_14 (by decide) (fun c14 => ?_) (fun c14 => ?_)
    · refine V_aload_n (pc := 30) X 0 dX6_transformByDeletion_30 rfl ?_
      refine V_get (pc := 31) X fl_X6_13 dX6_transformByDeletion_31 o1 o4 ?_
      refine V_bipush (pc := 34) (v := 100) X dX6_transformByDeletion_34 (by decide) ?_
      refine V_icmp_ne (pc := 36) X 58 dX6_transformByDeletion_36 (by decide) (fun c36 => ?_) (fun c36 => ?_)
      · refine V_vret (pc := 58) X Q rfl dX6_transformByDeletion_58 ?_
        have hlt : nI r < nI p ↔ r < p := nI_ltI (by omega) (by omega)
        have hle : nI p ≤ nI r ↔ p ≤ r := nI_leI (by omega) (by omega)
        have heq : nI r = nI p ↔ r = p := nI_eq (by omega) (by omega)
        have hk2 := kc_2 k
        have hk0 := kc_0 hk
        simp only [hk0, hk2, hlt, hle, heq] at *
        first
        | (refine ⟨trivial, ?_, Fr_sF rfl⟩
           rw [show trf (k, p, x, w) 2 r 0 = (k, p - 1, x, w) from by
            unfold trf; dsimp only; split <;> (try split) <;> (try split) <;> (try split) <;> first | rfl | (exfalso; omega)]
           exact OP.setp ho (by rw [ps_p _ (by assumption)]; exact nI_m1 (by omega)))
        | (refine ⟨trivial, ?_, (Fr_sF (S := fun b => b = a) rfl).seq (Fr_sF rfl)⟩
           rw [show trf (k, p, x, w) 2 r 0 = (0, 0, x, w) from by
            unfold trf; dsimp only; split <;> (try split) <;> (try split) <;> (try split) <;> first | rfl | (exfalso; omega)]
           exact OP.drop ho)
        | (refine ⟨trivial, ?_, Fr.refl _ _⟩
           rw [show trf (k, p, x, w) 2 r 0 = (k, p, x, w) from by
            unfold trf; dsimp only; split <;> (try split) <;> (try split) <;> (try split) <;> first | rfl | (exfalso; omega)]
           exact ho)
      · have k2 : k = 2 := (kc_2 k).mp c36
        refine V_iload_n (pc := 39) X 1 dX6_transformByDeletion_39 rfl ?_
        refine V_aload_n (pc := 40) X 0 dX6_transformByDeletion_40 rfl ?_
        refine V_get (pc := 41) X fl_X6_17 dX6_transformByDeletion_41 o1 (o5.trans (by rw [ps_p p (by omega)])) ?_
        refine V_icmp_ne (pc := 44) X 58 dX6_transformByDeletion_44 (by decide) (fun c44 => ?_) (fun c44 => ?_)
        · refine V_vret (pc := 58) X Q rfl dX6_transformByDeletion_58 ?_
          have hlt : nI r < nI p ↔ r < p := nI_ltI (by omega) (by omega)
          have hle : nI p ≤ nI r ↔ p ≤ r := nI_leI (by omega) (by omega)
          have heq : nI r = nI p ↔ r = p := nI_eq (by omega) (by omega)
          have hk2 := kc_2 k
          have hk0 := kc_0 hk
          simp only [hk0, hk2, hlt, hle, heq] at *
          first
          | (refine ⟨trivial, ?_, Fr_sF rfl⟩
             rw [show trf (k, p, x, w) 2 r 0 = (k, p - 1, x, w) from by
              unfold trf; dsimp only; split <;> (try split) <;> (try split) <;> (try split) <;> first | rfl | (exfalso; omega)]
             exact OP.setp ho (by rw [ps_p _ (by assumption)]; exact nI_m1 (by omega)))
          | (refine ⟨trivial, ?_, (Fr_sF (S := fun b => b = a) rfl).seq (Fr_sF rfl)⟩
             rw [show trf (k, p, x, w) 2 r 0 = (0, 0, x, w) from by
              unfold trf; dsimp only; split <;> (try split) <;> (try split) <;> (try split) <;> first | rfl | (exfalso; omega)]
             exact OP.drop ho)
          | (refine ⟨trivial, ?_, Fr.refl _ _⟩
             rw [show trf (k, p, x, w) 2 r 0 = (k, p, x, w) from by
              unfold trf; dsimp only; split <;> (try split) <;> (try split) <;> (try split) <;> first | rfl | (exfalso; omega)]
             exact ho)
        · refine V_aload_n (pc := 47) X 0 dX6_transformByDeletion_47 rfl ?_
          refine V_bipush (pc := 48) (v := 110) X dX6_transformByDeletion_48 (by decide) ?_
          refine V_put (pc := 50) X fl_X6_13 dX6_transformByDeletion_50 o1 ⟨by decide, by decide⟩ ?_
          refine V_aload_n (pc := 53) X 0 dX6_transformByDeletion_53 rfl ?_
          refine V_iconst (pc := 54) (v := (-1)) X dX6_transformByDeletion_54 (by decide) ?_
          refine V_put (pc := 55) X fl_X6_17 dX6_transformByDeletion_55 o1 ⟨rfl, rfl⟩ ?_
          refine V_vret (pc := 58) X Q rfl dX6_transformByDeletion_58 ?_
          have hlt : nI r < nI p ↔ r < p := nI_ltI (by omega) (by omega)
          have hle : nI p ≤ nI r ↔ p ≤ r := nI_leI (by omega) (by omega)
          have heq : nI r = nI p ↔ r = p := nI_eq (by omega) (by omega)
          have hk2 := kc_2 k
          have hk0 := kc_0 hk
          simp only [hk0, hk2, hlt, hle, heq] at *
          first
          | (refine ⟨trivial, ?_, Fr_sF rfl⟩
             rw [show trf (k, p, x, w) 2 r 0 = (k, p - 1, x, w) from by
              unfold trf; dsimp only; split <;> (try split) <;> (try split) <;> (try split) <;> first | rfl | (exfalso; omega)]
             exact OP.setp ho (by rw [ps_p _ (by assumption)]; exact nI_m1 (by omega)))
          | (refine ⟨trivial, ?_, (Fr_sF (S := fun b => b = a) rfl).seq (Fr_sF rfl)⟩
             rw [show trf (k, p, x, w) 2 r 0 = (0, 0, x, w) from by
              unfold trf; dsimp only; split <;> (try split) <;> (try split) <;> (try split) <;> first | rfl | (exfalso; omega)]
             exact OP.drop ho)
          | (refine ⟨trivial, ?_, Fr.refl _ _⟩
             rw [show trf (k, p, x, w) 2 r 0 = (k, p, x, w) from by
              unfold trf; dsimp only; split <;> (try split) <;> (try split) <;> (try split) <;> first | rfl | (exfalso; omega)]
             exact ho)
    · refine V_aload_n (pc := 17) X 0 dX6_transformByDeletion_17 rfl ?_
      refine V_dup (pc := 18) X dX6_transformByDeletion_18 rfl ?_
      refine V_get (pc := 19) X fl_X6_17 dX6_transformByDeletion_19 o1 (o5.trans (by rw [ps_p p k0])) ?_
      refine V_iconst (pc := 22) (v := 1) X dX6_transformByDeletion_22 (by decide) ?_
      refine V_isub (pc := 23) X dX6_transformByDeletion_23 ?_
      refine V_put (pc := 24) X fl_X6_17 dX6_transformByDeletion_24 o1 ⟨rfl, rfl⟩ ?_
      refine V_goto (pc := 27) X 58 dX6_transformByDeletion_27 (by decide) ?_
      refine V_vret (pc := 58) X Q rfl dX6_transformByDeletion_58 ?_
      have hlt : nI r < nI p ↔ r < p := nI_ltI (by omega) (by omega)
      have hle : nI p ≤ nI r ↔ p ≤ r := nI_leI (by omega) (by omega)
      have heq : nI r = nI p ↔ r = p := nI_eq (by omega) (by omega)
      have hk2 := kc_2 k
      have hk0 := kc_0 hk
      simp only [hk0, hk2, hlt, hle, heq] at *
      first
      | (refine ⟨trivial, ?_, Fr_sF rfl⟩
         rw [show trf (k, p, x, w) 2 r 0 = (k, p - 1, x, w) from by
          unfold trf; dsimp only; split <;> (try split) <;> (try split) <;> (try split) <;> first | rfl | (exfalso; omega)]
         exact OP.setp ho (by rw [ps_p _ (by assumption)]; exact nI_m1 (by omega)))
      | (refine ⟨trivial, ?_, (Fr_sF (S := fun b => b = a) rfl).seq (Fr_sF rfl)⟩
         rw [show trf (k, p, x, w) 2 r 0 = (0, 0, x, w) from by
          unfold trf; dsimp only; split <;> (try split) <;> (try split) <;> (try split) <;> first | rfl | (exfalso; omega)]
         exact OP.drop ho)
      | (refine ⟨trivial, ?_, Fr.refl _ _⟩
         rw [show trf (k, p, x, w) 2 r 0 = (k, p, x, w) from by
          unfold trf; dsimp only; split <;> (try split) <;> (try split) <;> (try split) <;> first | rfl | (exfalso; omega)]
         exact ho)
theorem c_trans {E : EV} {la : Nat → Nat} {h : AH} {a : Nat} {o b : SO} (ho : OP la h a o) (hk : o.1 ≤ 2) (hb : b.1 ≤ 2) (hp : o.2.1 < 2 ^ 30) (hr : b.2.1 < 2 ^ 30) (hg : b.2.2.2 < 2 ^ 30) : Ct E yX6_transform cX6_transform 4 none 2 0 [.ref a, .int (kc b.1), .int (ps b.1 b.2.1), .int (nI b.2.2.2)] h (fun v h1 => v = none ∧ OP la h1 a (trb o b) ∧ Fr (fun b => b = a) h h1) noX := by
  refine Ct_of RX6 (by decide +kernel) rfl (Nat.le_of_ble_eq_true rfl) (fun Γ X nt Q hin => ?_)
  obtain ⟨k, p, x, w⟩ := o
  obtain ⟨k9, r, x9, g⟩ := b
  dsimp only at *
  obtain ⟨o1, o2, o3, o4, o5⟩ := id ho
  refine V_iload_n (pc := 0) X 1 dX6_transform_0 rfl ?_
  refine V_bipush (pc := 1) (v := 105) X dX6_transform_1 (by decide) ?_
  refine V_icmp_ne (pc := 3) X 15 dX6_transform_3 (by decide) (fun c3 => ?_) (fun c3 => ?_)
  · refine V_iload_n (pc := 15) X 1 dX6_transform_15 rfl ?_
    refine V_bipush (pc := 16) (v := 100) X dX6_transform_16 (by decide) ?_
    refine V_icmp_ne (pc := 18) X 26 dX6_transform_18 (by decide) (fun c18 => ?_) (fun c18 => ?_)
    · refine V_vret (pc := 26) X Q rfl dX6_transform_26 ?_
      first
      | exact ⟨rfl, t9⟩
      | (refine ⟨rfl, ?_, Fr.refl _ _⟩
         rw [show trb (k, p, x, w) (k9, r, x9, g) = (k, p, x, w) from ?_]
         · exact ho
         · have e1 : k9 ≠ 1 := fun z => c3 ((kc_1 k9).mpr z)
           have e2 : k9 ≠ 2 := fun z => c18 ((kc_2 k9).mpr z)
           unfold trb trf
           dsimp only
           rw [if_pos (Or.inr (by omega))])
    · have e2 : k9 = 2 := (kc_2 k9).mp c18
      subst e2
      rw [ps_p r (by decide)]
      refine V_aload_n (pc := 21) X 0 dX6_transform_21 rfl ?_
      refine V_iload_n (pc := 22) X 2 dX6_transform_22 rfl ?_
      refine V_callV (pc := 23) X clk6 (by decide) o1 _ (c_byDel ho hk hp hr) cw_X6_45 (Q.room (by decide) (by decide)) rfl (Nat.le_of_ble_eq_true rfl) rfl (by omega) dX6_transform_23 (fun _ _ z => z.elim) ?_
      rintro v9 h9 ⟨rfl, t9⟩
      simp only [Option.toList_none, List.nil_append]
      refine V_vret (pc := 26) X Q rfl dX6_transform_26 ?_
      first
      | exact ⟨rfl, t9⟩
      | (refine ⟨rfl, ?_, Fr.refl _ _⟩
         rw [show trb (k, p, x, w) (k9, r, x9, g) = (k, p, x, w) from ?_]
         · exact ho
         · have e1 : k9 ≠ 1 := fun z => c3 ((kc_1 k9).mpr z)
           have e2 : k9 ≠ 2 := fun z => c18 ((kc_2 k9).mpr z)
           unfold trb trf
           dsimp only
           rw [if_pos (Or.inr (by omega))])
  · have e1 : k9 = 1 := (kc_1 k9).mp c3
    subst e1
    rw [ps_p r (by decide)]
    refine V_aload_n (pc := 6) X 0 dX6_transform_6 rfl ?_
    refine V_iload_n (pc := 7) X 2 dX6_transform_7 rfl ?_
    refine V_iload_n (pc := 8) X 3 dX6_transform_8 rfl ?_
    refine V_callV (pc := 9) X clk6 (by decide) o1 _ (c_byIns ho hk hp hr hg) cw_X6_41 (Q.room (by decide) (by decide)) rfl (Nat.le_of_ble_eq_true rfl) rfl (by omega) dX6_transform_9 (fun _ _ z => z.elim) ?_
    rintro v9 h9 ⟨rfl, t9⟩
    simp only [Option.toList_none, List.nil_append]
    refine V_goto (pc := 12) X 26 dX6_transform_12 (by decide) ?_
    refine V_vret (pc := 26) X Q rfl dX6_transform_26 ?_
    first
    | exact ⟨rfl, t9⟩
    | (refine ⟨rfl, ?_, Fr.refl _ _⟩
       rw [show trb (k, p, x, w) (k9, r, x9, g) = (k, p, x, w) from ?_]
       · exact ho
       · have e1 : k9 ≠ 1 := fun z => c3 ((kc_1 k9).mpr z)
         have e2 : k9 ≠ 2 := fun z => c18 ((kc_2 k9).mpr z)
         unfold trb trf
         dsimp only
         rw [if_pos (Or.inr (by omega))])
/-- where a place is, behind an operation at a lower one -/
def mvp (o : SO) (c : Nat) : Nat := if c ≤ o.2.1 then c else if o.1 = 1 then c + 1 else if o.1 = 2 then c - 1 else c
def bhd (o : SO) : Nat := if o.1 = 1 then o.2.1 + 1 else o.2.1
/-- an operation b goes on from the one before it, a -/
def gon (a b : SO) : Bool := if b.1 = 1 then a.1 = 1 ∧ b.2.1 = a.2.1 + 1 else b.1 = 2 ∧ a.1 = 2 ∧ (b.2.1 = a.2.1 ∨ b.2.1 + 1 = a.2.1)
theorem c_move {E : EV} {la : Nat → Nat} {h : AH} {a k p x w : Nat} (ho : OP la h a (k, p, x, w)) (hk : k ≤ 2) (h0 : k ≠ 0) (hp : p < 2 ^ 30) {c : Nat} (hc : c < 2 ^ 30) : Ct E yX6_move cX6_move 2 (some .int) 1 0 [.ref a, .int (nI c)] h (fun v h1 => v = some (.int (nI (mvp (k, p, x, w) c))) ∧ h1 = h) noX := by
  refine Ct_of RX6 (by decide +kernel) rfl (Nat.le_of_ble_eq_true rfl) (fun Γ X nt Q hin => ?_)
  obtain ⟨o1, o2, o3, o4, o5⟩ := id ho
  have hlt : nI p < nI c ↔ p < c := nI_ltI (by omega) (by omega)
  have hle : nI c ≤ nI p ↔ c ≤ p := nI_leI (by omega) (by omega)
  refine V_aload_n (pc := 0) X 0 dX6_move_0 rfl ?_
  refine V_get (pc := 1) X fl_X6_17 dX6_move_1 o1 (o5.trans (by rw [ps_p p h0])) ?_
  refine V_iload_n (pc := 4) X 1 dX6_move_4 rfl ?_
  refine V_icmp_lt (pc := 5) X 10 dX6_move_5 (by decide) (fun c5 => ?_) (fun c5 => ?_)
  · refine V_aload_n (pc := 10) X 0 dX6_move_10 rfl ?_
    refine V_get (pc := 11) X fl_X6_13 dX6_move_11 o1 o4 ?_
    refine V_bipush (pc := 14) (v := 105) X dX6_move_14 (by decide) ?_
    refine V_icmp_ne (pc := 16) X 23 dX6_move_16 (by decide) (fun c16 => ?_) (fun c16 => ?_)
    · refine V_aload_n (pc := 23) X 0 dX6_move_23 rfl ?_
      refine V_get (pc := 24) X fl_X6_13 dX6_move_24 o1 o4 ?_
      refine V_bipush (pc := 27) (v := 100) X dX6_move_27 (by decide) ?_
      refine V_icmp_ne (pc := 29) X 38 dX6_move_29 (by decide) (fun c29 => ?_) (fun c29 => ?_)
      · refine V_iload_n (pc := 38) X 1 dX6_move_38 rfl ?_
        refine V_iret (pc := 39) X Q rfl rfl dX6_move_39 ?_
        refine ⟨?_, rfl⟩
        have e1 : k ≠ 1 := fun z => c16 ((kc_1 k).mpr z)
        have e2 := kc_2 k
        have e0 := kc_0 hk
        unfold mvp
        dsimp only
        first
        | rw [if_neg (by omega), if_neg e1, if_pos (e2.mp c29)]
        | exact absurd (e2.mpr (by omega)) c29
      · refine V_iload_n (pc := 32) X 1 dX6_move_32 rfl ?_
        refine V_iconst (pc := 33) (v := 1) X dX6_move_33 (by decide) ?_
        rw [hlt] at c5
        refine V_isub (pc := 34) X dX6_move_34 ?_
        rw [nI_m1 (by omega)]
        refine V_goto (pc := 35) X 39 dX6_move_35 (by decide) ?_
        refine V_iret (pc := 39) X Q rfl rfl dX6_move_39 ?_
        refine ⟨?_, rfl⟩
        have e1 : k ≠ 1 := fun z => c16 ((kc_1 k).mpr z)
        have e2 := kc_2 k
        have e0 := kc_0 hk
        unfold mvp
        dsimp only
        first
        | rw [if_neg (by omega), if_neg e1, if_pos (e2.mp c29)]
        | exact absurd (e2.mpr (by omega)) c29
    · refine V_iload_n (pc := 19) X 1 dX6_move_19 rfl ?_
      refine V_iconst (pc := 20) (v := 1) X dX6_move_20 (by decide) ?_
      refine V_iadd (pc := 21) X dX6_move_21 ?_
      rw [nI_1]
      refine V_iret (pc := 22) X Q rfl rfl dX6_move_22 ?_
      rw [hlt] at c5
      refine ⟨?_, rfl⟩
      unfold mvp
      dsimp only
      rw [if_neg (by omega), if_pos ((kc_1 k).mp c16)]
  · refine V_iload_n (pc := 8) X 1 dX6_move_8 rfl ?_
    refine V_iret (pc := 9) X Q rfl rfl dX6_move_9 ?_
    rw [hlt] at c5
    refine ⟨?_, rfl⟩
    unfold mvp
    dsimp only
    rw [if_pos (by omega)]
theorem c_behind {E : EV} {la : Nat → Nat} {h : AH} {a k p x w : Nat} (ho : OP la h a (k, p, x, w)) (hk : k ≤ 2) (h0 : k ≠ 0) (hp : p < 2 ^ 30) : Ct E yX6_placeBehind cX6_placeBehind 1 (some .int) 1 0 [.ref a] h (fun v h1 => v = some (.int (nI (bhd (k, p, x, w)))) ∧ h1 = h) noX := by
  refine Ct_of RX6 (by decide +kernel) rfl (Nat.le_of_ble_eq_true rfl) (fun Γ X nt Q hin => ?_)
  obtain ⟨o1, o2, o3, o4, o5⟩ := id ho
  refine V_aload_n (pc := 0) X 0 dX6_placeBehind_0 rfl ?_
  refine V_get (pc := 1) X fl_X6_13 dX6_placeBehind_1 o1 o4 ?_
  refine V_bipush (pc := 4) (v := 105) X dX6_placeBehind_4 (by decide) ?_
  refine V_icmp_ne (pc := 6) X 18 dX6_placeBehind_6 (by decide) (fun c6 => ?_) (fun c6 => ?_)
  · refine V_aload_n (pc := 18) X 0 dX6_placeBehind_18 rfl ?_
    refine V_get (pc := 19) X fl_X6_17 dX6_placeBehind_19 o1 (o5.trans (by rw [ps_p p h0])) ?_
    refine V_iret (pc := 22) X Q rfl rfl dX6_placeBehind_22 ?_
    refine ⟨?_, rfl⟩
    unfold bhd
    dsimp only
    first
    | rw [if_pos ((kc_1 k).mp c6)]
    | rw [if_neg (fun z => c6 ((kc_1 k).mpr z))]
  · refine V_aload_n (pc := 9) X 0 dX6_placeBehind_9 rfl ?_
    refine V_get (pc := 10) X fl_X6_17 dX6_placeBehind_10 o1 (o5.trans (by rw [ps_p p h0])) ?_
    refine V_iconst (pc := 13) (v := 1) X dX6_placeBehind_13 (by decide) ?_
    refine V_iadd (pc := 14) X dX6_placeBehind_14 ?_
    rw [nI_1]
    refine V_goto (pc := 15) X 22 dX6_placeBehind_15 (by decide) ?_
    refine V_iret (pc := 22) X Q rfl rfl dX6_placeBehind_22 ?_
    refine ⟨?_, rfl⟩
    unfold bhd
    dsimp only
    first
    | rw [if_pos ((kc_1 k).mp c6)]
    | rw [if_neg (fun z => c6 ((kc_1 k).mpr z))]
theorem c_goesOn {E : EV} {la : Nat → Nat} {h : AH} {a d : Nat} {o b : SO} (ho : OP la h a o) (hd : OP la h d b) (hk : o.1 ≤ 2) (hk2 : b.1 ≤ 2) (hp : o.2.1 < 2 ^ 30) (hq : b.2.1 < 2 ^ 30) : Ct E yX6_goesOnFrom cX6_goesOnFrom 2 (some .boolean) 1 0 [.ref a, .ref d] h (fun v h1 => v = some (.int (if gon b o then 1 else 0)) ∧ h1 = h) noX := by
  refine Ct_of RX6 (by decide +kernel) rfl (Nat.le_of_ble_eq_true rfl) (fun Γ X nt Q hin => ?_)
  obtain ⟨o1, o2, o3, o4, o5⟩ := id ho
  obtain ⟨d1, d2, d3, d4, d5⟩ := id hd
  refine V_aload_n (pc := 0) X 0 dX6_goesOnFrom_0 rfl ?_
  refine V_get (pc := 1) X fl_X6_13 dX6_goesOnFrom_1 o1 o4 ?_
  refine V_bipush (pc := 4) (v := 105) X dX6_goesOnFrom_4 (by decide) ?_
  refine V_icmp_ne (pc := 6) X 37 dX6_goesOnFrom_6 (by decide) (fun c6 => ?_) (fun c6 => ?_)
  · have e1 : o.1 ≠ 1 := fun z => c6 ((kc_1 _).mpr z)
    refine V_aload_n (pc := 37) X 0 dX6_goesOnFrom_37 rfl ?_
    refine V_get (pc := 38) X fl_X6_13 dX6_goesOnFrom_38 o1 o4 ?_
    refine V_bipush (pc := 41) (v := 100) X dX6_goesOnFrom_41 (by decide) ?_
    refine V_icmp_ne (pc := 43) X 83 dX6_goesOnFrom_43 (by decide) (fun c43 => ?_) (fun c43 => ?_)
    · have e4 : o.1 ≠ 2 := fun z => c43 ((kc_2 _).mpr z)
      refine V_iconst (pc := 83) (v := 0) X dX6_goesOnFrom_83 (by decide) ?_
      refine V_iret (pc := 84) X Q rfl rfl dX6_goesOnFrom_84 ?_
      refine ⟨?_, rfl⟩
      unfold gon
      first
      | (rw [if_neg e1, if_pos (by simp; omega)]; done)
      | (rw [if_neg e1, if_neg (by simp; omega)]; done)
    · have e4 : o.1 = 2 := (kc_2 _).mp c43
      refine V_aload_n (pc := 46) X 1 dX6_goesOnFrom_46 rfl ?_
      refine V_get (pc := 47) X fl_X6_13 dX6_goesOnFrom_47 d1 d4 ?_
      refine V_bipush (pc := 50) (v := 100) X dX6_goesOnFrom_50 (by decide) ?_
      refine V_icmp_ne (pc := 52) X 83 dX6_goesOnFrom_52 (by decide) (fun c52 => ?_) (fun c52 => ?_)
      · have e5 : b.1 ≠ 2 := fun z => c52 ((kc_2 _).mpr z)
        refine V_iconst (pc := 83) (v := 0) X dX6_goesOnFrom_83 (by decide) ?_
        refine V_iret (pc := 84) X Q rfl rfl dX6_goesOnFrom_84 ?_
        refine ⟨?_, rfl⟩
        unfold gon
        first
        | (rw [if_neg e1, if_pos (by simp; omega)]; done)
        | (rw [if_neg e1, if_neg (by simp; omega)]; done)
      · have e5 : b.1 = 2 := (kc_2 _).mp c52
        refine V_aload_n (pc := 55) X 0 dX6_goesOnFrom_55 rfl ?_
        refine V_get (pc := 56) X fl_X6_17 dX6_goesOnFrom_56 o1 (o5.trans (by rw [ps_p _ (by omega)])) ?_
        refine V_aload_n (pc := 59) X 1 dX6_goesOnFrom_59 rfl ?_
        refine V_get (pc := 60) X fl_X6_17 dX6_goesOnFrom_60 d1 (d5.trans (by rw [ps_p _ (by omega)])) ?_
        refine V_icmp_eq (pc := 63) X 79 dX6_goesOnFrom_63 (by decide) (fun c63 => ?_) (fun c63 => ?_)
        · have e6 : o.2.1 = b.2.1 := (nI_eq (by omega) (by omega)).mp c63
          refine V_iconst (pc := 79) (v := 1) X dX6_goesOnFrom_79 (by decide) ?_
          refine V_goto (pc := 80) X 84 dX6_goesOnFrom_80 (by decide) ?_
          refine V_iret (pc := 84) X Q rfl rfl dX6_goesOnFrom_84 ?_
          refine ⟨?_, rfl⟩
          unfold gon
          first
          | (rw [if_neg e1, if_pos (by simp; omega)]; done)
          | (rw [if_neg e1, if_neg (by simp; omega)]; done)
        · have e6 : o.2.1 ≠ b.2.1 := fun z => c63 (by rw [z])
          refine V_aload_n (pc := 66) X 0 dX6_goesOnFrom_66 rfl ?_
          refine V_get (pc := 67) X fl_X6_17 dX6_goesOnFrom_67 o1 (o5.trans (by rw [ps_p _ (by omega)])) ?_
          refine V_aload_n (pc := 70) X 1 dX6_goesOnFrom_70 rfl ?_
          refine V_get (pc := 71) X fl_X6_17 dX6_goesOnFrom_71 d1 (d5.trans (by rw [ps_p _ (by omega)])) ?_
          refine V_iconst (pc := 74) (v := 1) X dX6_goesOnFrom_74 (by decide) ?_
          refine V_isub (pc := 75) X dX6_goesOnFrom_75 ?_
          refine V_icmp_ne (pc := 76) X 83 dX6_goesOnFrom_76 (by decide) (fun c76 => ?_) (fun c76 => ?_)
          · have e7 : o.2.1 + 1 ≠ b.2.1 := fun z => c76 (by rw [nI_m1 (by omega), show b.2.1 - 1 = o.2.1 by omega])
            refine V_iconst (pc := 83) (v := 0) X dX6_goesOnFrom_83 (by decide) ?_
            refine V_iret (pc := 84) X Q rfl rfl dX6_goesOnFrom_84 ?_
            refine ⟨?_, rfl⟩
            unfold gon
            first
            | (rw [if_neg e1, if_pos (by simp; omega)]; done)
            | (rw [if_neg e1, if_neg (by simp; omega)]; done)
          · have e7 : o.2.1 + 1 = b.2.1 := by
              rcases Nat.eq_zero_or_pos b.2.1 with z | z
              · rw [z] at c76
                exact absurd c76 (by
                  intro y
                  have := nI_pos (n := o.2.1) (by omega)
                  rw [y] at this
                  exact this (by decide))
              · rw [nI_m1 z] at c76
                have := (nI_eq (by omega) (by omega)).mp c76
                omega
            refine V_iconst (pc := 79) (v := 1) X dX6_goesOnFrom_79 (by decide) ?_
            refine V_goto (pc := 80) X 84 dX6_goesOnFrom_80 (by decide) ?_
            refine V_iret (pc := 84) X Q rfl rfl dX6_goesOnFrom_84 ?_
            refine ⟨?_, rfl⟩
            unfold gon
            first
            | (rw [if_neg e1, if_pos (by simp; omega)]; done)
            | (rw [if_neg e1, if_neg (by simp; omega)]; done)
  · have e1 : o.1 = 1 := (kc_1 _).mp c6
    refine V_aload_n (pc := 9) X 1 dX6_goesOnFrom_9 rfl ?_
    refine V_get (pc := 10) X fl_X6_13 dX6_goesOnFrom_10 d1 d4 ?_
    refine V_bipush (pc := 13) (v := 105) X dX6_goesOnFrom_13 (by decide) ?_
    refine V_icmp_ne (pc := 15) X 35 dX6_goesOnFrom_15 (by decide) (fun c15 => ?_) (fun c15 => ?_)
    · have e2 : b.1 ≠ 1 := fun z => c15 ((kc_1 _).mpr z)
      refine V_iconst (pc := 35) (v := 0) X dX6_goesOnFrom_35 (by decide) ?_
      refine V_iret (pc := 36) X Q rfl rfl dX6_goesOnFrom_36 ?_
      refine ⟨?_, rfl⟩
      unfold gon
      first
      | (rw [if_pos e1, if_pos (by simp; omega)]; done)
      | (rw [if_pos e1, if_neg (by simp; omega)]; done)
    · have e2 : b.1 = 1 := (kc_1 _).mp c15
      refine V_aload_n (pc := 18) X 0 dX6_goesOnFrom_18 rfl ?_
      refine V_get (pc := 19) X fl_X6_17 dX6_goesOnFrom_19 o1 (o5.trans (by rw [ps_p _ (by omega)])) ?_
      refine V_aload_n (pc := 22) X 1 dX6_goesOnFrom_22 rfl ?_
      refine V_get (pc := 23) X fl_X6_17 dX6_goesOnFrom_23 d1 (d5.trans (by rw [ps_p _ (by omega)])) ?_
      refine V_iconst (pc := 26) (v := 1) X dX6_goesOnFrom_26 (by decide) ?_
      refine V_iadd (pc := 27) X dX6_goesOnFrom_27 ?_
      rw [nI_1]
      refine V_icmp_ne (pc := 28) X 35 dX6_goesOnFrom_28 (by decide) (fun c28 => ?_) (fun c28 => ?_)
      · have e3 : o.2.1 ≠ b.2.1 + 1 := fun z => c28 (by rw [z])
        refine V_iconst (pc := 35) (v := 0) X dX6_goesOnFrom_35 (by decide) ?_
        refine V_iret (pc := 36) X Q rfl rfl dX6_goesOnFrom_36 ?_
        refine ⟨?_, rfl⟩
        unfold gon
        first
        | (rw [if_pos e1, if_pos (by simp; omega)]; done)
        | (rw [if_pos e1, if_neg (by simp; omega)]; done)
      · have e3 : o.2.1 = b.2.1 + 1 := (nI_eq (by omega) (by omega)).mp c28
        refine V_iconst (pc := 31) (v := 1) X dX6_goesOnFrom_31 (by decide) ?_
        refine V_goto (pc := 32) X 36 dX6_goesOnFrom_32 (by decide) ?_
        refine V_iret (pc := 36) X Q rfl rfl dX6_goesOnFrom_36 ?_
        refine ⟨?_, rfl⟩
        unfold gon
        first
        | (rw [if_pos e1, if_pos (by simp; omega)]; done)
        | (rw [if_pos e1, if_neg (by simp; omega)]; done)
