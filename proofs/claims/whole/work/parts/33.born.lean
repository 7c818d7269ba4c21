/-! AN END IS MADE -/
def gu (g : Nat → Nat) (i r : Nat) : Nat → Nat := fun j => if j = i then r else g j
/-- q, an end, has its text and its first lists -/
def PE (h0 : AH) (q i : Nat) (h : AH) (g : Nat → Nat) : Prop :=
  qK h q = 3 ∧ g 0 = q ∧ (∀ j, 1 ≤ j → j ≤ i → qF h (200 + j) q = .ref (g j)) ∧ qK h (g 1) = 8 ∧ qF h 700 (g 1) = .ref (g 7) ∧ (∀ j, (2 ≤ j ∧ j ≤ i) ∨ j = 7 → qK h (g j) = 11 ∧ qL h (g j) = [] ∧ qC h (g j) = 0) ∧ (∀ j k, ((2 ≤ j ∧ j ≤ i) ∨ j = 7) → ((2 ≤ k ∧ k ≤ i) ∨ k = 7) → g j = g k → j = k) ∧ (∀ j, (1 ≤ j ∧ j ≤ i) ∨ j = 7 → qK h0 (g j) = 0) ∧ Fr (fun a => a = q) h0 h
theorem PE.fresh {h0 h : AH} {q i r : Nat} {g : Nat → Nat} (z : PE h0 q i h g) (hr : qK h r = 0) : qK h0 r = 0 := by
  rcases Nat.eq_zero_or_pos (qK h0 r) with y | y
  · exact y
  · have := z.2.2.2.2.2.2.2.2.K (a := r) rfl (by omega); omega
theorem PE.step {h0 h : AH} {q i r f : Nat} {g : Nat → Nat} (z : PE h0 q i h g) (hr : qK h r = 0) (hi1 : 1 ≤ i) (hi5 : i ≤ 5) (hf : f = 201 + i) : PE h0 q (i + 1) (sF (sL (sK h r 11) r [] 0) f q (.ref r)) (gu g (i + 1) r) := by
  subst hf
  have hr0 := z.fresh hr
  obtain ⟨z1, z2, z3, z4, z5, z6, z7, z8, z9⟩ := z
  have hqr : q ≠ r := fun y => by rw [y] at z1; omega
  have h1r : g 1 ≠ r := fun y => by rw [y] at z4; omega
  have hjr : ∀ j, (2 ≤ j ∧ j ≤ i) ∨ j = 7 → g j ≠ r := fun j hj y => by have := (z6 j hj).1; rw [y] at this; omega
  have gn : ∀ j, j ≠ i + 1 → gu g (i + 1) r j = g j := fun j hj => if_neg hj
  have gr : gu g (i + 1) r (i + 1) = r := if_pos rfl
  have h7 : (7 : Nat) ≠ i + 1 := by omega
  refine ⟨by rw [qK_sF, qK_sL, qK_sK, if_neg hqr]; exact z1, by rw [gn 0 (by omega)]; exact z2, fun j a b => ?_, ?_, ?_, fun j hj => ?_, fun j k hj hk y => ?_, fun j hj => ?_, ?_⟩
  · by_cases e : j = i + 1
    · subst e; rw [gr, qF_sF, if_pos ⟨by omega, rfl⟩]
    · rw [gn j e, qF_sF, if_neg (fun y => by omega)]; exact z3 j a (by omega)
  · rw [gn 1 (by omega), qK_sF, qK_sL, qK_sK, if_neg h1r]; exact z4
  · rw [gn 1 (by omega), gn 7 h7, qF_sF, if_neg (fun y => by omega)]; exact z5
  · by_cases e : j = i + 1
    · subst e; rw [gr]
      exact ⟨by rw [qK_sF, qK_sL, qK_sK, if_pos rfl], by rw [qL_sF, qL_sL, if_pos rfl], by rw [qC_sF, qC_sL, if_pos rfl]⟩
    · have hj' : (2 ≤ j ∧ j ≤ i) ∨ j = 7 := by omega
      have := hjr j hj'
      obtain ⟨y1, y2, y3⟩ := z6 j hj'
      rw [gn j e]
      exact ⟨by rw [qK_sF, qK_sL, qK_sK, if_neg this]; exact y1, by rw [qL_sF, qL_sL, if_neg this]; exact y2, by rw [qC_sF, qC_sL, if_neg this]; exact y3⟩
  · by_cases ej : j = i + 1
    · by_cases ek : k = i + 1
      · omega
      · subst ej
        rw [gr, gn k ek] at y
        exact absurd y.symm (hjr k (by omega))
    · by_cases ek : k = i + 1
      · subst ek
        rw [gr, gn j ej] at y
        exact absurd y (hjr j (by omega))
      · rw [gn j ej, gn k ek] at y
        exact z7 j k (by omega) (by omega) y
  · by_cases e : j = i + 1
    · subst e; rw [gr]; exact hr0
    · rw [gn j e]; exact z8 j (by omega)
  · exact z9.trans (((Fr_sK (S := fun a => a = q ∨ a = r) hr).seq (Fr_sL (Or.inr rfl))).seq (Fr_sF (Or.inl rfl) (by omega))) (U := fun a => a = q) (fun _ _ y => y) (fun a ha y => y.elim (fun y => y) (fun y => absurd hr0 (by rw [← y]; exact ha)))
/-- owners are set -/
def ow (h : AH) (g : Nat → Nat) (v : Value) : Nat → AH
  | 0 => h
  | n + 1 => sF (ow h g v n) 9999 (g n) v
theorem ow_F (h : AH) (g : Nat → Nat) (v : Value) (f a : Nat) (hf : f < 9999) : ∀ n, qF (ow h g v n) f a = qF h f a
  | 0 => rfl
  | n + 1 => by
    show qF (sF (ow h g v n) 9999 (g n) v) f a = _
    rw [qF_own hf]; exact ow_F h g v f a hf n
theorem ow_K (h : AH) (g : Nat → Nat) (v : Value) (a : Nat) : ∀ n, qK (ow h g v n) a = qK h a
  | 0 => rfl
  | n + 1 => ow_K h g v a n
theorem ow_L (h : AH) (g : Nat → Nat) (v : Value) (a : Nat) : ∀ n, qL (ow h g v n) a = qL h a
  | 0 => rfl
  | n + 1 => ow_L h g v a n
theorem ow_C (h : AH) (g : Nat → Nat) (v : Value) (a : Nat) : ∀ n, qC (ow h g v n) a = qC h a
  | 0 => rfl
  | n + 1 => ow_C h g v a n
theorem ow_I (h : AH) (g : Nat → Nat) (v : Value) (a : Nat) : ∀ n, qI (ow h g v n) a = qI h a
  | 0 => rfl
  | n + 1 => ow_I h g v a n
theorem ow_o (h : AH) (g : Nat → Nat) (v : Value) : ∀ n i, i < n → own (ow h g v n) (g i) = v
  | 0, _, hi => absurd hi (Nat.not_lt_zero _)
  | n + 1, i, hi => by
    show own (sF (ow h g v n) 9999 (g n) v) (g i) = v
    by_cases e : g i = g n
    · rw [e]; exact own_own
    · rw [own_ne e]
      exact ow_o h g v n i (by
        rcases Nat.lt_or_ge i n with y | y
        · exact y
        · exact absurd (by rw [show i = n by omega]) e)
theorem ow_n (h : AH) (g : Nat → Nat) (v : Value) (a : Nat) : ∀ n, (∀ i, i < n → g i ≠ a) → own (ow h g v n) a = own h a
  | 0, _ => rfl
  | n + 1, hi => by
    show own (sF (ow h g v n) 9999 (g n) v) a = _
    rw [own_ne (fun y => hi n (by omega) y.symm)]
    exact ow_n h g v a n (fun i hn => hi i (by omega))
/-- frame, but for what S holds: also its owner may change -/
def Fs (q : Nat) (h h' : AH) : Prop := ∀ a, qK h a ≠ 0 → a ≠ q → qK h' a = qK h a ∧ own h' a = own h a ∧ (∀ f, qF h' f a = qF h f a) ∧ qL h' a = qL h a ∧ qC h' a = qC h a ∧ qI h' a = qI h a
theorem PE.done {h0 h : AH} {q e : Nat} {g : Nat → Nat} (z : PE h0 q 6 h g) (h7 : qF h 207 q = .int 0) (h8 : qF h 208 q = .int 0) (h9 : qF h 209 q = .int 0) (h20 : qF h 200 q = .int (nI e)) : (∀ la, ER la (ow h g (te e) 8) e g ([], [], [], [], 0, 0, 0)) ∧ Fs q h0 (ow h g (te e) 8) ∧ (∀ i, 4 ≤ i → i ≤ 5 → qL (ow h g (te e) 8) (g i) = [] ∧ qC (ow h g (te e) 8) (g i) = 0) := by
  obtain ⟨z1, z2, z3, z4, z5, z6, z7, z8, z9⟩ := z
  have ls : ∀ i, 2 ≤ i → i ≤ 7 → qK (ow h g (te e) 8) (g i) = 11 ∧ qL (ow h g (te e) 8) (g i) = [] ∧ qC (ow h g (te e) 8) (g i) = 0 := fun i a b => by
    rw [ow_K, ow_L, ow_C]; exact z6 i (by omega)
  have es : ES (ow h g (te e) 8) e g := ⟨by rw [ow_K, z2]; exact z1, by rw [ow_F _ _ _ _ _ (by decide), z2]; exact h20, fun i a b => by rw [ow_F _ _ _ _ _ (by omega), z2]; exact z3 i a b, by rw [ow_K]; exact z4, fun i a b => (ls i a b).1, fun i j a b c y => by have := z7 i j (by omega) (by omega) y; omega, fun i a => ow_o _ _ _ 8 i (by omega)⟩
  refine ⟨fun la => ⟨es, ⟨0, ⟨es.2.2.2.1, by rw [ow_F _ _ _ _ _ (by decide)]; exact z5, ls 7 (by decide) (by decide)⟩, by decide⟩, ⟨[], [], ⟨(ls 2 (by decide) (by decide)).2.1, OPs.nil _ _, fun r hr => absurd hr List.not_mem_nil, by rw [(ls 2 (by decide) (by decide)).2.2]; decide⟩, ⟨(ls 3 (by decide) (by decide)).2.1, OPs.nil _ _, fun r hr => absurd hr List.not_mem_nil, by rw [(ls 3 (by decide) (by decide)).2.2]; decide⟩, List.nodup_nil⟩, ⟨[], (ls 6 (by decide) (by decide)).2.1, ⟨rfl, fun j r o x y => by simp at x⟩, List.nodup_nil, fun r hr => absurd hr List.not_mem_nil, by rw [(ls 6 (by decide) (by decide)).2.2]; decide⟩, by rw [ow_F _ _ _ _ _ (by decide), z2]; exact h7, by rw [ow_F _ _ _ _ _ (by decide), z2]; exact h8, by rw [ow_F _ _ _ _ _ (by decide), z2]; exact h9⟩, fun a ha haq => ?_, fun i a b => ⟨(ls i (by omega) (by omega)).2.1, (ls i (by omega) (by omega)).2.2⟩⟩
  obtain ⟨f1, f2, f3⟩ := z9 a ha
  obtain ⟨p1, p2, p3, p4⟩ := f3 haq
  have na : ∀ i, i < 8 → g i ≠ a := fun i hi y => by
    rcases (show i = 0 ∨ (1 ≤ i ∧ i ≤ 6) ∨ i = 7 by omega) with e0 | e0
    · subst e0; exact haq (y.symm.trans z2)
    · exact ha (by rw [← y]; exact z8 i e0)
  have o1 := ow_n h g (te e) a 8 na
  refine ⟨by rw [ow_K]; exact f1, o1.trans f2, fun f => ?_, by rw [ow_L]; exact p2, by rw [ow_C]; exact p3, by rw [ow_I]; exact p4⟩
  by_cases hf : f = 9999
  · rw [hf]; exact o1.trans f2
  · have : ∀ n, n ≤ 8 → qF (ow h g (te e) n) f a = qF h f a := fun n hn => by
      induction n with
      | zero => rfl
      | succ n ih =>
        show qF (sF (ow h g (te e) n) 9999 (g n) (te e)) f a = _
        rw [qF_sF, if_neg (fun y => hf y.1)]
        exact ih (by omega)
    exact (this 8 (by decide)).trans (p1 f)
theorem c_end {E : EV} {h : AH} {q e : Nat} (hk : qK h q = 3) : Ct E yX2_init cX2_init 2 none 6 21 [.ref q, .int (nI e)] h (fun v h1 => v = none ∧ ∃ g : Nat → Nat, g 0 = q ∧ (∀ i, 1 ≤ i → i ≤ 7 → qK h (g i) = 0) ∧ (∀ la, ER la h1 e g ([], [], [], [], 0, 0, 0)) ∧ (∀ i, 4 ≤ i → i ≤ 5 → qL h1 (g i) = [] ∧ qC h1 (g i) = 0) ∧ Fs q h h1) noX := by
  refine Ct_of RX2 (by decide +kernel) rfl (Nat.le_of_ble_eq_true rfl) (fun Γ X nt Q hin => ?_)
  refine V_aload_n (pc := 0) X 0 dX2_init_0 rfl ?_
  refine V_objInit (pc := 1) X oi_X2_1 ⟨Q.fr (by decide), Q.lo (by decide)⟩ (Nat.le_of_ble_eq_true rfl) dX2_init_1 ?_
  refine V_aload_n (pc := 4) X 0 dX2_init_4 rfl ?_
  refine V_new (pc := 5) (u := 3) X clk7 (by decide) nw_X2_7 (by decide) (by omega) dX2_init_5 (fun t ht => ?_)
  have hqt : q ≠ t := fun y => by rw [← y] at ht; omega
  refine V_dup (pc := 8) X dX2_init_8 rfl ?_
  refine V_callN (pc := 9) X _ (c_text (by rw [qK_nO, if_pos rfl])) cw_X2_9 (Q.room (by decide) (by decide)) rfl (Nat.le_of_ble_eq_true rfl) rfl (by omega) dX2_init_9 ?_
  rintro v9 h9 ⟨rfl, tl, t0, tx, tf, tF⟩
  simp only [Option.toList_none, List.nil_append]
  have htl : qK h tl = 0 ∧ tl ≠ t := by
    rw [qK_nO] at t0
    by_cases y : tl = t
    · rw [if_pos y] at t0; exact absurd t0 (by decide)
    · rw [if_neg y] at t0; exact ⟨t0, y⟩
  have F9 : Fr (fun a => a = q) h h9 := (Fr_nO ht).trans tF (fun _ _ y => y) (fun a ha y => absurd (by rw [y]; exact ht) ha)
  have k9 := F9.K hk (by decide)
  refine V_putF (pc := 12) X hin fl_X2_10 dX2_init_12 k9 ⟨rfl, rfl⟩ ?_
  have z1 : PE h q 1 (sF h9 201 q (.ref t)) (fun j => if j = 0 then q else if j = 1 then t else tl) := by
    have w := tx (fun _ => 0)
    refine ⟨k9, rfl, fun j a b => ?_, w.1, by rw [qF_sF, if_neg (fun y => by omega)]; exact w.2.1, fun j hj => ?_, fun j k hj hk _ => by omega, fun j hj => ?_, F9.trans (Fr_sF (S := fun a => a = q) rfl) (fun _ _ y => y) (fun _ _ y => y)⟩
    · rw [show j = 1 by omega, qF_sF, if_pos ⟨rfl, rfl⟩]; rfl
    · rw [show j = 7 by omega]; exact ⟨w.2.2.1, w.2.2.2.1, w.2.2.2.2⟩
    · rcases (show j = 1 ∨ j = 7 by omega) with rfl | rfl
      · exact ht
      · exact htl.1
  refine V_aload_n (pc := 15) X 0 dX2_init_15 rfl ?_
  refine V_newL (pc := 16) X nw_X2_16 inW10 (by omega) dX2_init_16 (fun r1 hr1 => ?_)
  refine V_dup (pc := 19) X dX2_init_19 rfl ?_
  refine V_callI (pc := 20) X _ (c_listInit hr1) cw_X2_18 (Q.room (by decide) (by decide)) rfl (Nat.le_of_ble_eq_true rfl) rfl (by omega) dX2_init_20 ?_
  rintro v20 h20 ⟨rfl, rfl⟩
  simp only [Option.toList_none, List.nil_append]
  refine V_putF (pc := 23) X hin fl_X2_19 dX2_init_23 (by rw [qK_sL, qK_sK, if_neg (fun y => absurd (z1.1.symm.trans ((congrArg (qK _) y).trans hr1)) (by decide))]; exact z1.1) ⟨rfl, rfl⟩ ?_
  have z2 := z1.step hr1 (f := 202) (by decide) (by decide) rfl
  refine V_aload_n (pc := 26) X 0 dX2_init_26 rfl ?_
  refine V_newL (pc := 27) X nw_X2_16 inW10 (by omega) dX2_init_27 (fun r2 hr2 => ?_)
  refine V_dup (pc := 30) X dX2_init_30 rfl ?_
  refine V_callI (pc := 31) X _ (c_listInit hr2) cw_X2_18 (Q.room (by decide) (by decide)) rfl (Nat.le_of_ble_eq_true rfl) rfl (by omega) dX2_init_31 ?_
  rintro v31 h31 ⟨rfl, rfl⟩
  simp only [Option.toList_none, List.nil_append]
  refine V_putF (pc := 34) X hin fl_X2_23 dX2_init_34 (by rw [qK_sL, qK_sK, if_neg (fun y => absurd (z2.1.symm.trans ((congrArg (qK _) y).trans hr2)) (by decide))]; exact z2.1) ⟨rfl, rfl⟩ ?_
  have z3 := z2.step hr2 (f := 203) (by decide) (by decide) rfl
  refine V_aload_n (pc := 37) X 0 dX2_init_37 rfl ?_
  refine V_newL (pc := 38) X nw_X2_16 inW10 (by omega) dX2_init_38 (fun r3 hr3 => ?_)
  refine V_dup (pc := 41) X dX2_init_41 rfl ?_
  refine V_callI (pc := 42) X _ (c_listInit hr3) cw_X2_18 (Q.room (by decide) (by decide)) rfl (Nat.le_of_ble_eq_true rfl) rfl (by omega) dX2_init_42 ?_
  rintro v42 h42 ⟨rfl, rfl⟩
  simp only [Option.toList_none, List.nil_append]
  refine V_putF (pc := 45) X hin fl_X2_26 dX2_init_45 (by rw [qK_sL, qK_sK, if_neg (fun y => absurd (z3.1.symm.trans ((congrArg (qK _) y).trans hr3)) (by decide))]; exact z3.1) ⟨rfl, rfl⟩ ?_
  have z4 := z3.step hr3 (f := 204) (by decide) (by decide) rfl
  refine V_aload_n (pc := 48) X 0 dX2_init_48 rfl ?_
  refine V_newL (pc := 49) X nw_X2_16 inW10 (by omega) dX2_init_49 (fun r4 hr4 => ?_)
  refine V_dup (pc := 52) X dX2_init_52 rfl ?_
  refine V_callI (pc := 53) X _ (c_listInit hr4) cw_X2_18 (Q.room (by decide) (by decide)) rfl (Nat.le_of_ble_eq_true rfl) rfl (by omega) dX2_init_53 ?_
  rintro v53 h53 ⟨rfl, rfl⟩
  simp only [Option.toList_none, List.nil_append]
  refine V_putF (pc := 56) X hin fl_X2_29 dX2_init_56 (by rw [qK_sL, qK_sK, if_neg (fun y => absurd (z4.1.symm.trans ((congrArg (qK _) y).trans hr4)) (by decide))]; exact z4.1) ⟨rfl, rfl⟩ ?_
  have z5 := z4.step hr4 (f := 205) (by decide) (by decide) rfl
  refine V_aload_n (pc := 59) X 0 dX2_init_59 rfl ?_
  refine V_newL (pc := 60) X nw_X2_16 inW10 (by omega) dX2_init_60 (fun r5 hr5 => ?_)
  refine V_dup (pc := 63) X dX2_init_63 rfl ?_
  refine V_callI (pc := 64) X _ (c_listInit hr5) cw_X2_18 (Q.room (by decide) (by decide)) rfl (Nat.le_of_ble_eq_true rfl) rfl (by omega) dX2_init_64 ?_
  rintro v64 h64 ⟨rfl, rfl⟩
  simp only [Option.toList_none, List.nil_append]
  refine V_putF (pc := 67) X hin fl_X2_32 dX2_init_67 (by rw [qK_sL, qK_sK, if_neg (fun y => absurd (z5.1.symm.trans ((congrArg (qK _) y).trans hr5)) (by decide))]; exact z5.1) ⟨rfl, rfl⟩ ?_
  have z6 := z5.step hr5 (f := 206) (by decide) (by decide) rfl
  refine V_aload_n (pc := 70) X 0 dX2_init_70 rfl ?_
  refine V_iconst (pc := 71) (v := 0) X dX2_init_71 (by decide) ?_
  generalize hhh : sF (sL _ _ _ _) _ _ _ = hz at z6 ⊢
  obtain ⟨g, z6⟩ : ∃ g, PE h q 6 hz g := ⟨_, z6⟩
  refine V_put (pc := 72) X fl_X2_35 dX2_init_72 z6.1 ⟨rfl, rfl⟩ ?_
  refine V_aload_n (pc := 75) X 0 dX2_init_75 rfl ?_
  refine V_iconst (pc := 76) (v := 0) X dX2_init_76 (by decide) ?_
  refine V_put (pc := 77) X fl_X2_39 dX2_init_77 z6.1 ⟨rfl, rfl⟩ ?_
  refine V_aload_n (pc := 80) X 0 dX2_init_80 rfl ?_
  refine V_iconst (pc := 81) (v := 0) X dX2_init_81 (by decide) ?_
  refine V_put (pc := 82) X fl_X2_42 dX2_init_82 z6.1 ⟨rfl, rfl⟩ ?_
  refine V_aload_n (pc := 85) X 0 dX2_init_85 rfl ?_
  refine V_iload_n (pc := 86) X 1 dX2_init_86 rfl ?_
  refine V_putF (pc := 87) X hin fl_X2_45 dX2_init_87 z6.1 ⟨rfl, rfl⟩ ?_
  have z7 : PE h q 6 (sF (sF (sF (sF hz 207 q (.int 0)) 208 q (.int 0)) 209 q (.int 0)) 200 q (.int (nI e))) g := by
    obtain ⟨y1, y2, y3, y4, y5, y6, y7, y8, y9⟩ := z6
    exact ⟨y1, y2, fun j a b => by rw [qF_sF, if_neg (fun y => by omega), qF_sF, if_neg (fun y => by omega), qF_sF, if_neg (fun y => by omega), qF_sF, if_neg (fun y => by omega)]; exact y3 j a b, y4, by rw [qF_sF, if_neg (fun y => by omega), qF_sF, if_neg (fun y => by omega), qF_sF, if_neg (fun y => by omega), qF_sF, if_neg (fun y => by omega)]; exact y5, y6, y7, y8, y9.trans ((((Fr_sF (S := fun a => a = q) rfl).seq (Fr_sF rfl)).seq (Fr_sF rfl)).seq (Fr_sF rfl)) (fun _ _ y => y) (fun _ _ y => y)⟩
  have zd := z7.done (e := e) (by rw [qF_sF, if_neg (fun y => by omega), qF_sF, if_neg (fun y => by omega), qF_sF, if_neg (fun y => by omega), qF_sF, if_pos ⟨rfl, rfl⟩]) (by rw [qF_sF, if_neg (fun y => by omega), qF_sF, if_neg (fun y => by omega), qF_sF, if_pos ⟨rfl, rfl⟩]) (by rw [qF_sF, if_neg (fun y => by omega), qF_sF, if_pos ⟨rfl, rfl⟩]) (by rw [qF_sF, if_pos ⟨rfl, rfl⟩])
  generalize sF (sF (sF (sF hz 207 q (.int 0)) 208 q (.int 0)) 209 q (.int 0)) 200 q (.int (nI e)) = hy at z7 zd ⊢
  refine V_own (g 0) (te e) (V_own (g 1) (te e) (V_own (g 2) (te e) (V_own (g 3) (te e) (V_own (g 4) (te e) (V_own (g 5) (te e) (V_own (g 6) (te e) (V_own (g 7) (te e) ?_)))))))
  refine V_vret (pc := 90) X Q rfl dX2_init_90 ?_
  exact ⟨rfl, g, z7.2.1, fun i a b => z7.2.2.2.2.2.2.2.1 i (by omega), zd.1, zd.2.2, zd.2.1⟩
