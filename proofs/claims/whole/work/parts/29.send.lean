/-! MESSAGES -/
theorem Fr.own {S : Nat → Prop} {h h' : AH} {q : Nat} {v : Value} (F : Fr S h h') (hq : qK h q = 0) : Fr S h (sF h' 9999 q v) := fun b hb => by
  have hbq : b ≠ q := fun z => hb (by rw [z]; exact hq)
  obtain ⟨f1, f2, f3⟩ := F b hb
  refine ⟨f1, ?_, fun hs => ?_⟩
  · show qF (sF h' 9999 q v) 9999 b = qF h 9999 b; rw [qF_sF, if_neg (fun z => hbq z.2)]; exact f2
  · obtain ⟨p1, p2, p3, p4⟩ := f3 hs
    exact ⟨fun f => by rw [qF_sF, if_neg (fun z => hbq z.2)]; exact p1 f, p2, p3, p4⟩
theorem qF_own {h : AH} {q : Nat} {v : Value} {f a : Nat} (hf : f < 9999) : qF (sF h 9999 q v) f a = qF h f a := by rw [qF_sF, if_neg (fun z => by omega)]
theorem own_own {h : AH} {q : Nat} {v : Value} : own (sF h 9999 q v) q = v := by unfold own; rw [qF_sF, if_pos ⟨rfl, rfl⟩]
theorem own_ne {h : AH} {q a : Nat} {v : Value} (hq : a ≠ q) : own (sF h 9999 q v) a = own h a := by unfold own; rw [qF_sF, if_neg (fun z => hq z.2)]
theorem OP.own {la : Nat → Nat} {h : AH} {a q : Nat} {o : SO} {v : Value} (z : OP la h a o) : OP la (sF h 9999 q v) a o := by
  obtain ⟨z1, z2, z3, z4, z5⟩ := z
  exact ⟨z1, (qF_own (by decide)).trans z2, (qF_own (by decide)).trans z3, (qF_own (by decide)).trans z4, (qF_own (by decide)).trans z5⟩
theorem OPs.own {la : Nat → Nat} {h : AH} {q : Nat} {R : List Nat} {O : List SO} {v : Value} (z : OPs la h R O) : OPs la (sF h 9999 q v) R O := ⟨z.1, fun j r o x y => (z.2 j r o x y).own⟩
theorem ref_ne {a b : Nat} (h : a ≠ b) : (Value.ref a) ≠ Value.ref b := fun z => h (Value.ref.inj z)
/-- a message without its operations -/
def MH (h : AH) (m e rv ol : Nat) : Prop := qK h m = 6 ∧ qF h 500 m = .int (nI e) ∧ qF h 501 m = .int (nI rv) ∧ qF h 502 m = .ref ol ∧ own h m = .ref 35 ∧ qK h ol = 11 ∧ own h ol = .ref (40 + m)
/-- message m, of end e at revision rv, with the operations O -/
def MS (la : Nat → Nat) (h : AH) (m e rv : Nat) (O : List SO) : Prop := ∃ ol R, MH h m e rv ol ∧ qL h ol = R ∧ qC h ol ≤ 301 ∧ OPs la h R O ∧ R.Nodup ∧ ∀ r ∈ R, own h r = .ref (40 + m)
theorem MH.fr {h h' : AH} {m e rv ol : Nat} {S : Nat → Prop} (z : MH h m e rv ol) (F : Fr S h h') (hs : ¬ S m) : MH h' m e rv ol := by
  obtain ⟨z1, z2, z3, z4, z5, z6, z7⟩ := z
  have h0 : qK h m ≠ 0 := by omega
  exact ⟨F.K z1 (by decide), F.F h0 hs z2, F.F h0 hs z3, F.F h0 hs z4, F.O h0 z5, F.K z6 (by decide), F.O (by omega) z7⟩
theorem MH.own {h : AH} {m e rv ol q : Nat} {v : Value} (z : MH h m e rv ol) (h1 : m ≠ q) (h2 : ol ≠ q) : MH (sF h 9999 q v) m e rv ol := by
  obtain ⟨z1, z2, z3, z4, z5, z6, z7⟩ := z
  exact ⟨z1, (qF_own (by decide)).trans z2, (qF_own (by decide)).trans z3, (qF_own (by decide)).trans z4, (own_ne h1).trans z5, z6, (own_ne h2).trans z7⟩
theorem MS.fr {la : Nat → Nat} {h h' : AH} {m e rv : Nat} {O : List SO} {S : Nat → Prop} (z : MS la h m e rv O) (F : Fr S h h') (hs : ¬ S m) (ht : ∀ a, own h a = .ref (40 + m) → ¬ S a) : MS la h' m e rv O := by
  obtain ⟨ol, R, z1, z2, z3, z4, z5, z6⟩ := z
  have k : qK h ol ≠ 0 := by have := z1.2.2.2.2.2.1; omega
  have so : ¬ S ol := ht _ z1.2.2.2.2.2.2
  exact ⟨ol, R, z1.fr F hs, (F.L k so).trans z2, by rw [F.C k so]; exact z3, z4.fr F (fun r hr => ht r (z6 r hr)), z5, fun r hr => F.O (by have := z4.kind hr; omega) (z6 r hr)⟩
theorem c_msg {E : EV} {h : AH} {q : Nat} {e r : Int32} (hk : qK h q = 6) : Ct E yX5_init cX5_init 3 none 5 3 [.ref q, .int e, .int r] h (fun v h1 => v = none ∧ ∃ ol, qK h ol = 0 ∧ ol ≠ q ∧ qK h1 q = 6 ∧ qF h1 500 q = .int e ∧ qF h1 501 q = .int r ∧ qF h1 502 q = .ref ol ∧ qK h1 ol = 11 ∧ qL h1 ol = [] ∧ qC h1 ol = 0 ∧ Fr (fun b => b = q) h h1) noX := by
  refine Ct_of RX5 (by decide +kernel) rfl (Nat.le_of_ble_eq_true rfl) (fun Γ X nt Q hin => ?_)
  refine V_aload_n (pc := 0) X 0 dX5_init_0 rfl ?_
  refine V_objInit (pc := 1) X oi_X5_1 ⟨Q.fr (by decide), Q.lo (by decide)⟩ (Nat.le_of_ble_eq_true rfl) dX5_init_1 ?_
  refine V_aload_n (pc := 4) X 0 dX5_init_4 rfl ?_
  refine V_newL (pc := 5) X nw_X5_7 inW10 (by omega) dX5_init_5 (fun ol h0 => ?_)
  have hqt : ol ≠ q := fun z => by rw [← z] at hk; omega
  refine V_dup (pc := 8) X dX5_init_8 rfl ?_
  refine V_callI (pc := 9) X _ (c_listInit h0) cw_X5_9 (Q.room (by decide) (by decide)) rfl (Nat.le_of_ble_eq_true rfl) rfl (by omega) dX5_init_9 ?_
  rintro v9 h9 ⟨rfl, rfl⟩
  simp only [Option.toList_none, List.nil_append]
  refine V_putF (pc := 12) X hin fl_X5_10 dX5_init_12 (by rw [qK_sL, qK_sK, if_neg hqt.symm]; exact hk) ⟨rfl, rfl⟩ ?_
  refine V_aload_n (pc := 15) X 0 dX5_init_15 rfl ?_
  refine V_iload_n (pc := 16) X 1 dX5_init_16 rfl ?_
  refine V_putF (pc := 17) X hin fl_X5_16 dX5_init_17 (by rw [qK_sF, qK_sL, qK_sK, if_neg hqt.symm]; exact hk) ⟨rfl, rfl⟩ ?_
  refine V_aload_n (pc := 20) X 0 dX5_init_20 rfl ?_
  refine V_iload_n (pc := 21) X 2 dX5_init_21 rfl ?_
  refine V_putF (pc := 22) X hin fl_X5_20 dX5_init_22 (by rw [qK_sF, qK_sF, qK_sL, qK_sK, if_neg hqt.symm]; exact hk) ⟨rfl, rfl⟩ ?_
  refine V_vret (pc := 25) X Q rfl dX5_init_25 ?_
  refine ⟨rfl, ol, h0, hqt, by rw [qK_sF, qK_sF, qK_sF, qK_sL, qK_sK, if_neg hqt.symm]; exact hk, ?_, ?_, ?_, by rw [qK_sF, qK_sF, qK_sF, qK_sL, qK_sK, if_pos rfl], by rw [qL_sF, qL_sF, qL_sF, qL_sL, if_pos rfl], by rw [qC_sF, qC_sF, qC_sF, qC_sL, if_pos rfl], ?_⟩
  · rw [qF_sF, if_neg (fun z => by omega), qF_sF, if_pos ⟨rfl, rfl⟩]
  · rw [qF_sF, if_pos ⟨rfl, rfl⟩]
  · rw [qF_sF, if_neg (fun z => by omega), qF_sF, if_neg (fun z => by omega), qF_sF, if_pos ⟨rfl, rfl⟩]
  exact (((((Fr_sK (S := fun b => b = q ∨ b = ol) h0).seq (Fr_sL (Or.inr rfl))).seq (Fr_sF (Or.inl rfl))).seq (Fr_sF (Or.inl rfl))).seq (Fr_sF (Or.inl rfl))).mono (fun a ha z => z.elim (fun z => z) (fun z => absurd (by rw [z]; exact h0) ha))
theorem c_sendM {E : EV} {la : Nat → Nat} {h : AH} {e rv : Nat} {g : Nat → Nat} {R U : List Nat} {W : List SO} (hE : ES h e g) (hv : qF h 209 (g 0) = .int (nI rv)) (hL : qL h (g 2) = R) (hO : OPs la h R W) (hRl : R.length ≤ 200) (hU : qL h (g 4) = U) (hUk : ∀ u ∈ U, qK h u = 6) (hUl : U.length ≤ 200) (hUc : qC h (g 4) ≤ 301) (he : e ≤ 1) : Ct E yX2_sendMessage cX2_sendMessage 3 none 8 1010 [.ref (g 0)] h (fun v h1 => v = none ∧ ∃ m, qK h m = 0 ∧ MS la h1 m e rv W ∧ qL h1 (g 4) = U ++ [m] ∧ qC h1 (g 4) ≤ 301 ∧ Fr (fun b => b = g 4) h h1) noX := by
  refine Ct_of RX2 (by decide +kernel) rfl (Nat.le_of_ble_eq_true rfl) (fun Γ X nt Q hin => ?_)
  refine V_new (pc := 0) (u := 3) X clk5 (by decide) nw_X2_74 (by decide) (by omega) dX2_sendMessage_0 (fun m hm0 => ?_)
  have F0 : Fr (fun b => b = g 4) h (nO h m 6) := Fr_nO hm0
  have hE0 := hE.fr F0 (hE.n0 (by decide) (by decide))
  have hv0 : qF (nO h m 6) 209 (g 0) = .int (nI rv) := F0.F (by have := hE.1; omega) (hE.n0 (by decide) (by decide)) hv
  have hRW := hO.1
  refine V_dup (pc := 3) X dX2_sendMessage_3 rfl ?_
  refine V_aload_n (pc := 4) X 0 dX2_sendMessage_4 rfl ?_
  refine V_get (pc := 5) X fl_X2_45 dX2_sendMessage_5 hE0.1 hE0.2.1 ?_
  refine V_aload_n (pc := 8) X 0 dX2_sendMessage_8 rfl ?_
  refine V_get (pc := 9) X fl_X2_42 dX2_sendMessage_9 hE0.1 hv0 ?_
  refine V_callI (pc := 12) X _ (c_msg (by rw [qK_nO, if_pos rfl])) cw_X2_136 (Q.room (by decide) (by decide)) rfl (Nat.le_of_ble_eq_true rfl) rfl (by omega) dX2_sendMessage_12 ?_
  rintro v12 h12 ⟨rfl, ol, hol, holm, m1, m2, m3, m4, m5, m6, m7, m8⟩
  simp only [Option.toList_none, List.nil_append]
  refine V_own m (.ref 35) ?_
  refine V_own ol (.ref (40 + m)) ?_
  have hol0 : qK h ol = 0 := by rw [qK_nO, if_neg holm] at hol; exact hol
  have F1 : Fr (fun b => b = g 4) h h12 := F0.trans m8 (fun _ _ z => z) (fun a ha z => absurd (by rw [z]; exact hm0) ha)
  have F2 : Fr (fun b => b = g 4) h (sF (sF h12 9999 m (.ref 35)) 9999 ol (.ref (40 + m))) := (F1.own hm0).own hol0
  have M0 : MH (sF (sF h12 9999 m (.ref 35)) 9999 ol (.ref (40 + m))) m e rv ol := ⟨m1, (qF_own (by decide)).trans ((qF_own (by decide)).trans m2), (qF_own (by decide)).trans ((qF_own (by decide)).trans m3), (qF_own (by decide)).trans ((qF_own (by decide)).trans m4), (own_ne (fun z => holm z.symm)).trans own_own, m5, own_own⟩
  have n2 : ¬ g 2 = g 4 := hE.ne (by decide) (by decide) (by decide) (by decide) (by decide)
  have no4 : ol ≠ g 4 := fun z => by have := hE.l 4; rw [← z] at this; omega
  refine V_astore_n (pc := 15) X [(1, .ref _), (0, .ref _)] dX2_sendMessage_15 rfl (by decide) rfl ?_
  refine V_iconst (pc := 16) (v := 0) X dX2_sendMessage_16 (by decide) ?_
  refine V_istore_n (pc := 17) X [(2, .int _), (1, .ref _), (0, .ref _)] dX2_sendMessage_17 rfl (by decide) rfl ?_
  have key : ∀ (n i : Nat), R.length - i < n → i ≤ R.length → ∀ (hr : AH) (Rm : List Nat) (d : Nat), MH hr m e rv ol → qL hr ol = Rm → qC hr ol = d → d ≤ 301 → OPs la hr Rm (W.take i) → Rm.Nodup → (∀ r ∈ Rm, qK h r = 0 ∧ own hr r = .ref (40 + m)) → Fr (fun b => b = g 4) h hr → (∀ a, qK h a ≠ 0 → qL hr a = qL h a ∧ qC hr a = qC h a) → V E Γ (3 * (R.length - i) + (301 - d) + 101) hr 18 [(2, .int (nI i)), (1, .ref m), (0, .ref (g 0))] [] := by
    intro n
    induction n with
    | zero => exact fun i hn => absurd hn (Nat.not_lt_zero _)
    | succ n ih =>
      intro i hn hi hr Rm d r1 r2 r3 r4 r5 r6 r7 r8 r9
      have hE1 := hE.fr r8 (hE.n0 (by decide) (by decide))
      have hL1 : qL hr (g 2) = R := (r9 _ (by have := hE.l 2; omega)).1.trans hL
      have hml : Rm.length = i := by rw [r5.1, List.length_take]; omega
      refine V_iload_n (pc := 18) X 0 dX2_sendMessage_18 rfl ?_
      refine V_aload_n (pc := 19) X 2 dX2_sendMessage_19 rfl ?_
      refine V_get (pc := 20) X fl_X2_19 dX2_sendMessage_20 hE1.1 (hE1.f 2) ?_
      refine V_callL (pc := 23) X (Or.inl (hE1.l 2)) _ (c_size (hE1.l 2)) cw_X2_84 (Q.room (by decide) (by decide)) rfl (Nat.le_of_ble_eq_true rfl) rfl (by omega) dX2_sendMessage_23 (fun _ _ z => z.elim) ?_
      rintro v23 h23 ⟨rfl, e23⟩
      rw [e23, hL1]
      simp only [Option.toList_some, List.cons_append, List.nil_append]
      refine V_icmp_ge (pc := 26) X 57 dX2_sendMessage_26 (by decide) (fun c26 => ?_) (fun c26 => ?_)
      · have hie : ¬ i < R.length := fun z => nI_ge z (by omega) c26
        refine V_aload_n (pc := 57) X 2 dX2_sendMessage_57 rfl ?_
        have L4 : qL hr (g 4) = U := (r9 _ (by have := hE.l 4; omega)).1.trans hU
        have C4 : qC hr (g 4) ≤ 301 := by rw [(r9 _ (by have := hE.l 4; omega)).2]; exact hUc
        refine V_get (pc := 58) X fl_X2_26 dX2_sendMessage_58 hE1.1 (hE1.f 4) ?_
        refine V_aload_n (pc := 61) X 1 dX2_sendMessage_61 rfl ?_
        refine V_callL (pc := 62) X (Or.inl (hE1.l 4)) _ (c_add (x := m) (hE1.l 4) (by rw [r1.1]; omega) (by omega) (fun y hy => by rw [L4] at hy; rw [r8.K (hUk y hy) (by decide)]; omega)) cw_X2_66 (Q.room (by decide) (by decide)) rfl (Nat.le_of_ble_eq_true rfl) rfl (by have := gcap_inc (n := (qL hr (g 4)).length) (c := qC hr (g 4)) (by rw [L4]; exact hUl); omega) dX2_sendMessage_62 (fun _ _ z => z.elim) ?_
        rintro v62 h62 ⟨rfl, e62⟩
        rw [e62, L4]
        simp only [Option.toList_some, List.cons_append, List.nil_append]
        refine V_pop (pc := 65) X dX2_sendMessage_65 rfl ?_
        refine V_vret (pc := 66) X Q rfl dX2_sendMessage_66 ?_
        have FS : Fr (fun b => b = g 4) hr (sL hr (g 4) (U ++ [m]) (gcap U.length (qC hr (g 4)))) := Fr_sL rfl
        have hii : i = R.length := by omega
        have hms : MS la hr m e rv W := ⟨ol, Rm, r1, r2, (by rw [r3]; exact r4), by rw [hii, hRW, List.take_length] at r5; exact r5, r6, fun r hr => (r7 r hr).2⟩
        refine ⟨rfl, m, hm0, hms.fr FS (fun z => by have a := r1.1; have b := hE1.l 4; rw [z] at a; omega) (fun a ha z => ?_), by rw [qL_sL, if_pos rfl], ?_, r8.seq FS⟩
        · rw [z, hE1.2.2.2.2.2.2 4 (by decide)] at ha
          unfold te at ha
          exact ref_ne (by omega) ha
        · rw [qC_sL, if_pos rfl]
          exact Nat.le_trans (gcap_max (by omega)) (by omega)
      · have hlt : i < R.length := by
          rcases Nat.lt_or_ge i (R.length) with z | z
          · exact z
          · exact absurd (nI_le z (by omega)) c26
        obtain ⟨r, o, hr1, ho1, ho⟩ := hO.at hlt
        have ho2 := ho.fr r8 (fun z => by have a := ho.1; have b := hE.l 4; rw [z] at a; omega)
        refine V_aload_n (pc := 29) X 1 dX2_sendMessage_29 rfl ?_
        refine V_get (pc := 30) X fl_X2_81 dX2_sendMessage_30 r1.1 r1.2.2.2.1 ?_
        refine V_aload_n (pc := 33) X 2 dX2_sendMessage_33 rfl ?_
        refine V_get (pc := 34) X fl_X2_19 dX2_sendMessage_34 hE1.1 (hE1.f 2) ?_
        refine V_iload_n (pc := 37) X 0 dX2_sendMessage_37 rfl ?_
        refine V_callL (pc := 38) X (Or.inl (hE1.l 2)) _ (c_get (i := i) (x := r) (hE1.l 2) (by rw [hL1]; exact hr1) (by rw [hL1]; omega)) cw_X2_87 (Q.room (by decide) (by decide)) rfl (Nat.le_of_ble_eq_true rfl) rfl (by omega) dX2_sendMessage_38 (fun _ _ z => z.elim) ?_
        rintro v38 h38 ⟨rfl, e38⟩
        rw [e38]
        simp only [Option.toList_some, List.cons_append, List.nil_append]
        refine V_cast (pc := 41) X clk6 (by decide) ck_X2_53 ho2.1 dX2_sendMessage_41 ?_
        refine V_callV (pc := 44) X clk6 (by decide) ho2.1 _ (c_copy (k := o.1) (p := o.2.1) (x := o.2.2.1) (w := o.2.2.2) ho2) cw_X2_91 (Q.room (by decide) (by decide)) rfl (Nat.le_of_ble_eq_true rfl) rfl (by omega) dX2_sendMessage_44 (fun _ _ z => z.elim) ?_
        rintro v44 h44 ⟨q, rfl, q0, oq, Fq⟩
        simp only [Option.toList_some, List.cons_append, List.nil_append]
        refine V_own q (.ref (40 + m)) ?_
        have hq0 : qK h q = 0 := by
          rcases Nat.eq_zero_or_pos (qK h q) with z | z
          · exact z
          · have := r8.K (a := q) rfl (by omega); omega
        have hqm : m ≠ q := fun z => by have := r1.1; rw [z] at this; omega
        have hqo : ol ≠ q := fun z => by have := r1.2.2.2.2.2.1; rw [z] at this; omega
        have Fh : Fr (fun _ => False) hr (sF h44 9999 q (.ref (40 + m))) := (Fq _).own q0
        have M1 := r1.fr Fh (fun z => z)
        have R1 := r5.fr Fh (fun _ _ z => z)
        have L1 : qL (sF h44 9999 q (.ref (40 + m))) ol = Rm := (Fh.L (by have := r1.2.2.2.2.2.1; omega) (fun z => z)).trans r2
        have C1 : qC (sF h44 9999 q (.ref (40 + m))) ol = d := (Fh.C (by have := r1.2.2.2.2.2.1; omega) (fun z => z)).trans r3
        have hgm : gcap i d ≤ 301 := Nat.le_trans (gcap_max (by omega)) (by omega)
        have hgl := gcap_le i d
        refine V_callL (pc := 47) X (Or.inl M1.2.2.2.2.2.1) _ (c_add (x := q) M1.2.2.2.2.2.1 (by rw [show qK (sF h44 9999 q (.ref (40 + m))) q = 7 from oq.1]; omega) (by rw [C1]; omega) (fun y hy => by rw [L1] at hy; rw [R1.kind hy]; omega)) cw_X2_66 (Q.room (by decide) (by decide)) rfl (Nat.le_of_ble_eq_true rfl) rfl (by rw [L1, C1, hml]; omega) dX2_sendMessage_47 (fun _ _ z => z.elim) ?_
        rintro v47 h47 ⟨rfl, e47⟩
        rw [e47, L1, C1, hml]
        simp only [Option.toList_some, List.cons_append, List.nil_append]
        refine V_pop (pc := 50) X dX2_sendMessage_50 rfl ?_
        refine V_inc1 (pc := 51) X 0 [(2, .int _), (1, .ref _), (0, .ref _)] dX2_sendMessage_51 rfl (by decide) rfl ?_
        rw [nI_1]
        refine V_goto (pc := 54) X 18 dX2_sendMessage_54 (by decide) ?_
        refine V.less (b' := 3 * (R.length - (i + 1)) + (301 - gcap i d) + 101) (by omega) ?_
        have FS : Fr (fun b => b = ol) (sF h44 9999 q (.ref (40 + m))) (sL (sF h44 9999 q (.ref (40 + m))) ol (Rm ++ [q]) (gcap i d)) := Fr_sL rfl
        have kol := r1.2.2.2.2.2.1
        have hqR : q ∉ Rm := fun z => by have := r5.kind z; omega
        refine ih (i + 1) (by omega) (by omega) _ (Rm ++ [q]) (gcap i d) (M1.fr FS (fun z => by have := r1.1; rw [z] at this; omega)) (by rw [qL_sL, if_pos rfl]) (by rw [qC_sL, if_pos rfl]) hgm ?_ ?_ ?_ ?_ ?_
        · rw [List.take_add_one, ho1]
          refine OPs.app (R1.fr FS (fun y hy z => by have a := r5.kind hy; rw [z] at a; omega)) ?_
          refine OPs.cons ?_ (OPs.nil _ _)
          exact (OP.own oq).fr FS (fun z => hqo z.symm)
        · rw [List.nodup_append]
          exact ⟨r6, by simp, fun a ha b hb z => by simp at hb; rw [hb] at z; exact hqR (by rw [← z]; exact ha)⟩
        · intro y hy
          rcases List.mem_append.mp hy with hy | hy
          · obtain ⟨a, b⟩ := r7 y hy
            exact ⟨a, Fh.O (by have := r5.kind hy; omega) b⟩
          · simp at hy
            subst hy
            exact ⟨hq0, own_own⟩
        · exact r8.trans (Fh.trans FS (fun _ _ z => z.elim) (fun a ha z => Or.inr z)) (U := fun b => b = g 4) (S' := fun b => False ∨ b = ol) (fun _ _ z => z) (fun a ha z => z.elim (fun z => z.elim) (fun z => absurd (by rw [z]; exact hol0) ha))
        · intro a ha
          have hao : a ≠ ol := fun z => ha (by rw [z]; exact hol0)
          rw [qL_sL, if_neg hao, qC_sL, if_neg hao]
          have k := r8.K (a := a) rfl ha
          exact ⟨(Fh.L (by omega) (fun z => z)).trans (r9 a ha).1, (Fh.C (by omega) (fun z => z)).trans (r9 a ha).2⟩
  refine V.less (b' := 3 * (R.length - 0) + (301 - 0) + 101) (by omega) ?_
  exact key (R.length + 1) 0 (by omega) (Nat.zero_le _) _ [] 0 M0 m6 m7 (by decide) (OPs.nil _ _) List.nodup_nil (fun r hr => absurd hr List.not_mem_nil) F2 (fun a ha => by
    have hne : a ≠ m := fun z => ha (by rw [z]; exact hm0)
    obtain ⟨y1, y2, y3⟩ := m8 a (by rw [qK_nO, if_neg hne]; exact ha)
    obtain ⟨w1, w2, w3, w4⟩ := y3 hne
    exact ⟨w2, w3⟩)
