/-! ALL IS MADE -/
theorem Fs_ow {h0 h : AH} {q n : Nat} {g : Nat → Nat} {v : Value} (F : Fr (fun a => a = q) h0 h) (hg : ∀ i, i < n → g i = q ∨ qK h0 (g i) = 0) : Fs q h0 (ow h g v n) := fun a ha haq => by
  obtain ⟨f1, f2, f3⟩ := F a ha
  obtain ⟨p1, p2, p3, p4⟩ := f3 haq
  have na : ∀ i, i < n → g i ≠ a := fun i hi y => (hg i hi).elim (fun u => haq (y.symm.trans u)) (fun u => ha (by rw [← y]; exact u))
  have o1 := ow_n h g v a n na
  refine ⟨by rw [ow_K]; exact f1, o1.trans f2, fun f => ?_, by rw [ow_L]; exact p2, by rw [ow_C]; exact p3, by rw [ow_I]; exact p4⟩
  by_cases hf : f = 9999
  · rw [hf]; exact o1.trans f2
  · have : ∀ k, k ≤ n → qF (ow h g v k) f a = qF h f a := fun k hk => by
      induction k with
      | zero => rfl
      | succ k ih =>
        show qF (sF (ow h g v k) 9999 (g k) v) f a = _
        rw [qF_sF, if_neg (fun y => hf y.1)]
        exact ih (by omega)
    exact (this n (Nat.le_refl _)).trans (p1 f)
theorem Fs.new {h h1 : AH} {q k : Nat} (z : Fs q (nO h q k) h1) (hq : qK h q = 0) : Fr (fun _ => False) h h1 := fun a ha => by
  have haq : a ≠ q := fun u => ha (by rw [u]; exact hq)
  obtain ⟨p1, p2, p3, p4, p5, p6⟩ := z a (by rw [qK_nO, if_neg haq]; exact ha) haq
  refine ⟨by rw [p1, qK_nO, if_neg haq], ?_, fun _ => ⟨fun f => by rw [p3 f, qF_nO, if_neg haq], p4, p5, p6⟩⟩
  rw [p2]; unfold own; rw [qF_nO, if_neg haq]
theorem c_centre {E : EV} {h : AH} {q : Nat} (hk : qK h q = 1) : Ct E yX0_init cX0_init 1 none 6 9 [.ref q] h (fun v h1 => v = none ∧ ∃ gc : Nat → Nat, gc 0 = q ∧ (∀ i, 1 ≤ i → i ≤ 3 → qK h (gc i) = 0) ∧ (∀ la, CE la h1 gc []) ∧ qL h1 (gc 2) = [] ∧ Fs q h h1) noX := by
  refine Ct_of RX0 (by decide +kernel) rfl (Nat.le_of_ble_eq_true rfl) (fun Γ X nt Q hin => ?_)
  refine V_aload_n (pc := 0) X 0 dX0_init_0 rfl ?_
  refine V_objInit (pc := 1) X oi_X0_1 ⟨Q.fr (by decide), Q.lo (by decide)⟩ (Nat.le_of_ble_eq_true rfl) dX0_init_1 ?_
  refine V_aload_n (pc := 4) X 0 dX0_init_4 rfl ?_
  refine V_new (pc := 5) (u := 3) X clk7 (by decide) nw_X0_7 (by decide) (by omega) dX0_init_5 (fun t ht => ?_)
  have hqt : q ≠ t := fun y => by rw [← y] at ht; omega
  refine V_dup (pc := 8) X dX0_init_8 rfl ?_
  refine V_callN (pc := 9) X _ (c_text (by rw [qK_nO, if_pos rfl])) cw_X0_9 (Q.room (by decide) (by decide)) rfl (Nat.le_of_ble_eq_true rfl) rfl (by omega) dX0_init_9 ?_
  rintro v9 h9 ⟨rfl, tl, t0, tx, tf, tF⟩
  simp only [Option.toList_none, List.nil_append]
  have htl : qK h tl = 0 ∧ tl ≠ t := by
    rw [qK_nO] at t0
    by_cases y : tl = t
    · rw [if_pos y] at t0; exact absurd t0 (by decide)
    · rw [if_neg y] at t0; exact ⟨t0, y⟩
  have F9 : Fr (fun a => a = q) h h9 := (Fr_nO ht).trans tF (fun _ _ y => y) (fun a ha y => absurd (by rw [y]; exact ht) ha)
  have k9 := F9.K hk (by decide)
  have w := tx (fun _ => 0)
  have hq8 : q ≠ tl := fun y => by have := w.2.2.1; rw [← y, k9] at this; exact absurd this (by decide)
  refine V_putF (pc := 12) X hin fl_X0_10 dX0_init_12 k9 ⟨rfl, rfl⟩ ?_
  refine V_aload_n (pc := 15) X 0 dX0_init_15 rfl ?_
  refine V_newL (pc := 16) X nw_X0_16 inW10 (by omega) dX0_init_16 (fun l hl => ?_)
  have hl9 : qK h9 l = 0 := hl
  have hl0 : qK h l = 0 := by
    rcases Nat.eq_zero_or_pos (qK h l) with y | y
    · exact y
    · have := F9.K (a := l) rfl (by omega); omega
  have hql : q ≠ l := fun y => by rw [← y] at hl9; omega
  have htl2 : t ≠ l := fun y => by rw [← y, w.1] at hl9; exact absurd hl9 (by decide)
  have hll : tl ≠ l := fun y => by rw [← y, w.2.2.1] at hl9; exact absurd hl9 (by decide)
  refine V_dup (pc := 19) X dX0_init_19 rfl ?_
  refine V_callI (pc := 20) X _ (c_listInit hl) cw_X0_18 (Q.room (by decide) (by decide)) rfl (Nat.le_of_ble_eq_true rfl) rfl (by omega) dX0_init_20 ?_
  rintro v20 h20 ⟨rfl, rfl⟩
  simp only [Option.toList_none, List.nil_append]
  refine V_putF (pc := 23) X hin fl_X0_19 dX0_init_23 (by rw [qK_sL, qK_sK, if_neg hql]; exact k9) ⟨rfl, rfl⟩ ?_
  have Fz : Fr (fun a => a = q) h (sF (sL (sK (sF h9 0 q (.ref t)) l 11) l [] 0) 1 q (.ref l)) := ((F9.seq (Fr_sF (f := 0) rfl)).trans (((Fr_sK (S := fun a => a = q ∨ a = l) hl).seq (Fr_sL (Or.inr rfl))).seq (Fr_sF (f := 1) (Or.inl rfl))) (U := fun a => a = q) (fun _ _ y => y) (fun a ha y => y.elim (fun y => y) (fun y => absurd hl0 (by rw [← y]; exact ha))))
  obtain ⟨hz, ehz⟩ : ∃ hz, hz = sF (sL (sK (sF h9 0 q (.ref t)) l 11) l [] 0) 1 q (.ref l) := ⟨_, rfl⟩
  rw [← ehz] at Fz ⊢
  obtain ⟨gc, egc⟩ : ∃ gc : Nat → Nat, gc = fun i => if i = 0 then q else if i = 1 then t else if i = 2 then l else tl := ⟨_, rfl⟩
  have g0 : gc 0 = q := by rw [egc]; rfl
  have g1 : gc 1 = t := by rw [egc]; rfl
  have g2 : gc 2 = l := by rw [egc]; rfl
  have g3 : gc 3 = tl := by rw [egc]; rfl
  have hfr : ∀ i, i < 4 → gc i = q ∨ qK h (gc i) = 0 := fun i hi => by
    rcases (show i = 0 ∨ i = 1 ∨ i = 2 ∨ i = 3 by omega) with rfl | rfl | rfl | rfl
    · exact Or.inl g0
    · rw [g1]; exact Or.inr ht
    · rw [g2]; exact Or.inr hl0
    · rw [g3]; exact Or.inr htl.1
  have Fo := Fs_ow (g := gc) (v := te 2) (n := 4) Fz hfr
  refine V_own (gc 0) (te 2) (V_own (gc 1) (te 2) (V_own (gc 2) (te 2) (V_own (gc 3) (te 2) ?_)))
  refine V_vret (pc := 26) X Q rfl dX0_init_26 ?_
  refine ⟨rfl, gc, g0, fun i a b => (hfr i (by omega)).elim (fun u => ?_) id, fun la => ⟨?_, ?_, ?_, ⟨0, ⟨?_, ?_, ?_, ?_, ?_⟩, by decide⟩, ?_, ?_, ?_, fun i hi => ow_o _ _ _ 4 i (by omega)⟩, ?_, Fo⟩
  · rcases (show i = 1 ∨ i = 2 ∨ i = 3 by omega) with rfl | rfl | rfl
    · rw [g1]; exact ht
    · rw [g2]; exact hl0
    · rw [g3]; exact htl.1
  · show qK (ow hz gc (te 2) 4) (gc 0) = 1
    rw [ow_K, g0, ehz, qK_sF, qK_sL, qK_sK, if_neg hql]; exact k9
  · show qF (ow hz gc (te 2) 4) 0 (gc 0) = _
    rw [ow_F _ _ _ _ _ (by decide), g0, g1, ehz, qF_sF, if_neg (fun y => by omega), qF_sL, qF_sK, qF_sF, if_pos ⟨rfl, rfl⟩]
  · show qF (ow hz gc (te 2) 4) 1 (gc 0) = _
    rw [ow_F _ _ _ _ _ (by decide), g0, g2, ehz, qF_sF, if_pos ⟨rfl, rfl⟩]
  · show qK (ow hz gc (te 2) 4) (gc 1) = 8
    rw [ow_K, g1, ehz, qK_sF, qK_sL, qK_sK, if_neg htl2]; exact w.1
  · show qF (ow hz gc (te 2) 4) 700 (gc 1) = _
    rw [ow_F _ _ _ _ _ (by decide), g1, g3, ehz, qF_sF, if_neg (fun y => by omega), qF_sL, qF_sK, qF_sF, if_neg (fun y => by omega)]; exact w.2.1
  · show qK (ow hz gc (te 2) 4) (gc 3) = 11
    rw [ow_K, g3, ehz, qK_sF, qK_sL, qK_sK, if_neg hll]; exact w.2.2.1
  · show qL (ow hz gc (te 2) 4) (gc 3) = _
    rw [ow_L, g3, ehz, qL_sF, qL_sL, if_neg hll]; exact w.2.2.2.1
  · show qC (ow hz gc (te 2) 4) (gc 3) = _
    rw [ow_C, g3, ehz, qC_sF, qC_sL, if_neg hll]; exact w.2.2.2.2
  · show qK (ow hz gc (te 2) 4) (gc 2) = 11
    rw [ow_K, g2, ehz, qK_sF, qK_sL, qK_sK, if_pos rfl]
  · show qC (ow hz gc (te 2) 4) (gc 2) ≤ 301
    rw [ow_C, g2, ehz, qC_sF, qC_sL, if_pos rfl]; decide
  · rw [g2, g3]; exact hll.symm
  · show qL (ow hz gc (te 2) 4) (gc 2) = []
    rw [ow_L, g2, ehz, qL_sF, qL_sL, if_pos rfl]
theorem c_changes {E : EV} {h : AH} {q : Nat} (hk : qK h q = 2) : Ct E yX1_init cX1_init 1 none 4 252 [.ref q] h (fun v h1 => v = none ∧ ∃ gx : Nat → Nat, gx 0 = q ∧ (∀ i, 1 ≤ i → i ≤ 2 → qK h (gx i) = 0) ∧ CG h1 q (gx 1) (gx 2) ∧ (∀ i, i ≤ 2 → own h1 (gx i) = te 4) ∧ Fs q h h1) noX := by
  refine Ct_of RX1 (by decide +kernel) rfl (Nat.le_of_ble_eq_true rfl) (fun Γ X nt Q hin => ?_)
  refine V_aload_n (pc := 0) X 0 dX1_init_0 rfl ?_
  refine V_objInit (pc := 1) X oi_X1_5 ⟨Q.fr (by decide), Q.lo (by decide)⟩ (Nat.le_of_ble_eq_true rfl) dX1_init_1 ?_
  refine V_aload_n (pc := 4) X 0 dX1_init_4 rfl ?_
  refine V_sipush (pc := 5) (v := 201) X dX1_init_5 (by decide) ?_
  refine V_newarrI (pc := 8) X (N := 201) (u := 51) (kd := 13) (Or.inl rfl) (by decide) (by decide) (by decide) ⟨by decide, by decide, by omega⟩ ac_int dX1_init_8 (fun r hr => ?_)
  have hqr : q ≠ r := fun y => by rw [← y] at hr; omega
  have F1 : Fr (fun a => a = q) h (sI (sK h r 13) r (List.replicate 201 0)) := ((Fr_sK (S := fun a => a = r) hr).seq (Fr_sI rfl)).mono (fun a ha y => absurd hr (by rw [← y]; exact ha))
  refine V_putF (pc := 10) X hin fl_X1_11 dX1_init_10 (by rw [qK_sI, qK_sK, if_neg hqr]; exact hk) ⟨rfl, rfl⟩ ?_
  obtain ⟨h1, eh1⟩ : ∃ h1, h1 = sF (sI (sK h r 13) r (List.replicate 201 0)) 100 q (.ref r) := ⟨_, rfl⟩
  have F2 : Fr (fun a => a = q) h h1 := by rw [eh1]; exact F1.seq (Fr_sF (f := 100) rfl)
  have r1 : qK h1 r = 13 := by rw [eh1, qK_sF, qK_sI, qK_sK, if_pos rfl]
  have r2 : (qI h1 r).length = 201 := by rw [eh1, qI_sF, qI_sI, if_pos rfl, List.length_replicate]
  have r3 : qF h1 100 q = .ref r := by rw [eh1, qF_sF, if_pos ⟨rfl, rfl⟩]
  have kq1 := F2.K hk (by decide)
  rw [← eh1]
  refine V_aload_n (pc := 13) X 0 dX1_init_13 rfl ?_
  refine V_sipush (pc := 14) (v := 803) X dX1_init_14 (by decide) ?_
  refine V_newarrI (pc := 17) X (N := 803) (u := 201) (kd := 13) (Or.inl rfl) (by decide) (by decide) (by decide) ⟨by decide, by decide, by omega⟩ ac_int dX1_init_17 (fun f hf => ?_)
  have hqf : q ≠ f := fun y => by rw [← y] at hf; omega
  have hrf : r ≠ f := fun y => by rw [← y] at hf; omega
  have hf0 : qK h f = 0 := by
    rcases Nat.eq_zero_or_pos (qK h f) with y | y
    · exact y
    · have := F2.K (a := f) rfl (by omega); omega
  refine V_putF (pc := 19) X hin fl_X1_15 dX1_init_19 (by rw [qK_sI, qK_sK, if_neg hqf]; exact kq1) ⟨rfl, rfl⟩ ?_
  have F3 : Fr (fun a => a = q) h (sF (sI (sK h1 f 13) f (List.replicate 803 0)) 101 q (.ref f)) := F2.trans (((Fr_sK (S := fun a => a = q ∨ a = f) hf).seq (Fr_sI (Or.inr rfl))).seq (Fr_sF (f := 101) (Or.inl rfl))) (U := fun a => a = q) (fun _ _ y => y) (fun a ha y => y.elim (fun y => y) (fun y => absurd hf0 (by rw [← y]; exact ha)))
  obtain ⟨hz, ehz⟩ : ∃ hz, hz = sF (sI (sK h1 f 13) f (List.replicate 803 0)) 101 q (.ref f) := ⟨_, rfl⟩
  rw [← ehz] at F3 ⊢
  obtain ⟨gx, egx⟩ : ∃ gx : Nat → Nat, gx = fun i => if i = 0 then q else if i = 1 then r else f := ⟨_, rfl⟩
  have g0 : gx 0 = q := by rw [egx]; rfl
  have g1 : gx 1 = r := by rw [egx]; rfl
  have g2 : gx 2 = f := by rw [egx]; rfl
  have hfr : ∀ i, i < 3 → gx i = q ∨ qK h (gx i) = 0 := fun i hi => by
    rcases (show i = 0 ∨ i = 1 ∨ i = 2 by omega) with rfl | rfl | rfl
    · exact Or.inl g0
    · rw [g1]; exact Or.inr hr
    · rw [g2]; exact Or.inr hf0
  have Fo := Fs_ow (g := gx) (v := te 4) (n := 3) F3 hfr
  refine V_own (gx 0) (te 4) (V_own (gx 1) (te 4) (V_own (gx 2) (te 4) ?_))
  refine V_vret (pc := 22) X Q rfl dX1_init_22 ?_
  refine ⟨rfl, gx, g0, fun i a b => ?_, ⟨?_, ?_, ?_, ?_, ?_, ?_, ?_, ?_⟩, fun i hi => ow_o _ _ _ 3 i (by omega), Fo⟩
  · rcases (show i = 1 ∨ i = 2 by omega) with rfl | rfl
    · rw [g1]; exact hr
    · rw [g2]; exact hf0
  · show qK (ow hz gx (te 4) 3) q = 2
    rw [ow_K, ehz, qK_sF, qK_sI, qK_sK, if_neg hqf]; exact kq1
  · show qF (ow hz gx (te 4) 3) 100 q = _
    rw [ow_F _ _ _ _ _ (by decide), g1, ehz, qF_sF, if_neg (fun y => by omega), qF_sI, qF_sK]; exact r3
  · show qF (ow hz gx (te 4) 3) 101 q = _
    rw [ow_F _ _ _ _ _ (by decide), g2, ehz, qF_sF, if_pos ⟨rfl, rfl⟩]
  · show qK (ow hz gx (te 4) 3) (gx 1) = 13
    rw [ow_K, g1, ehz, qK_sF, qK_sI, qK_sK, if_neg hrf]; exact r1
  · show qK (ow hz gx (te 4) 3) (gx 2) = 13
    rw [ow_K, g2, ehz, qK_sF, qK_sI, qK_sK, if_pos rfl]
  · show (qI (ow hz gx (te 4) 3) (gx 1)).length = 201
    rw [ow_I, g1, ehz, qI_sF, qI_sI, if_neg hrf]; exact r2
  · show (qI (ow hz gx (te 4) 3) (gx 2)).length = 803
    rw [ow_I, g2, ehz, qI_sF, qI_sI, if_pos rfl, List.length_replicate]
  · rw [g1, g2]; exact hrf
def z0E : EQ := ([], [], [], [], 0, 0, 0)
def z0S : SQ := (fun _ => z0E, fun _ => [], [], [], 0, fun _ => (0, 0), [])
theorem own_te {h : AH} {q : Nat} (ho : own h q = te 5) {e : Nat} (he : e ≠ 5) {a : Nat} (y : own h a = te e) : a ≠ q := fun u => ref_ne (a := 20 + e) (b := 25) (by omega) (y.symm.trans (by rw [u]; exact ho))
/-- an object is made and a field of q is set to it -/
theorem stepF {h h1 : AH} {q f x : Nat} (F : Fr (fun _ => False) h h1) (hf : f < 9999) : Fr (fun a => a = q) h (sF h1 f q (.ref x)) := F.trans (Fr_sF (S := fun a => a = q) rfl hf) (fun _ _ y => y.elim) (fun _ _ y => y)
theorem c_couplet {E : EV} {h : AH} {q : Nat} (hk : qK h q = 9) : Ct E yX8_init cX8_init 1 none 7 400 [.ref q] h (fun v h1 => v = none ∧ (∃ G, RC h1 q G z0S) ∧ Fs q h h1) noX := by
  refine Ct_of RX8 (by decide +kernel) rfl (Nat.le_of_ble_eq_true rfl) (fun Γ X nt Q hin => ?_)
  refine V_own q (te 5) ?_
  obtain ⟨k0, ek0⟩ : ∃ k0, k0 = sF h 9999 q (te 5) := ⟨_, rfl⟩
  have kq0 : qK k0 q = 9 := by rw [ek0]; exact hk
  have oq0 : own k0 q = te 5 := by rw [ek0]; exact own_own
  have S0 : Fs q h k0 := fun a ha haq => by
    rw [ek0]
    refine ⟨rfl, own_ne haq, fun f => by rw [qF_sF, if_neg (fun y => haq y.2)], rfl, rfl, rfl⟩
  rw [← ek0]
  refine V_aload_n (pc := 0) X 0 dX8_init_0 rfl ?_
  refine V_objInit (pc := 1) X oi_X8_1 ⟨Q.fr (by decide), Q.lo (by decide)⟩ (Nat.le_of_ble_eq_true rfl) dX8_init_1 ?_
  refine V_aload_n (pc := 4) X 0 dX8_init_4 rfl ?_
  refine V_new (pc := 5) (u := 3) X clk2 (by decide) nw_X8_7 (by decide) (by omega) dX8_init_5 (fun a1 ha1 => ?_)
  refine V_dup (pc := 8) X dX8_init_8 rfl ?_
  refine V_iconst (pc := 9) (v := 0) X dX8_init_9 (by decide) ?_
  refine V_callI (pc := 10) X _ (c_end (e := 0) (by rw [qK_nO, if_pos rfl])) cw_X8_9 (Q.room (by decide) (by decide)) rfl (Nat.le_of_ble_eq_true rfl) rfl (by omega) dX8_init_10 ?_
  rintro v10 h1 ⟨rfl, g0, b1, b2, b3, b4, b5⟩
  simp only [Option.toList_none, List.nil_append]
  have F1 : Fr (fun _ => False) k0 h1 := b5.new ha1
  refine V_putF (pc := 13) X hin fl_X8_12 dX8_init_13 (F1.K kq0 (by decide)) ⟨rfl, rfl⟩ ?_
  obtain ⟨k1, ek1⟩ : ∃ k1, k1 = sF h1 800 q (.ref a1) := ⟨_, rfl⟩
  have S1 : Fr (fun a => a = q) k0 k1 := by rw [ek1]; exact stepF F1 (by decide)
  have p1 : qF k1 800 q = .ref a1 := by rw [ek1, qF_sF, if_pos ⟨rfl, rfl⟩]
  have kq1 := S1.K kq0 (by decide)
  have oq1 := S1.O (by rw [kq0]; decide) oq0
  rw [← ek1]
  have E01 : ∀ la, ER la k1 0 g0 ([], [], [], [], 0, 0, 0) := fun la => (b3 la).fr (S := fun a => a = q) (by rw [ek1]; exact Fr_sF (f := 800) rfl) (fun a y => own_te (F1.O (by rw [kq0]; decide) oq0) (by decide) y)
  have l01 : ∀ i, 4 ≤ i → i ≤ 5 → qL k1 (g0 i) = [] ∧ qC k1 (g0 i) = 0 := fun i a b => by rw [ek1]; exact b4 i a b
  refine V_aload_n (pc := 16) X 0 dX8_init_16 rfl ?_
  refine V_new (pc := 17) (u := 3) X clk2 (by decide) nw_X8_7 (by decide) (by omega) dX8_init_17 (fun a2 ha2 => ?_)
  refine V_dup (pc := 20) X dX8_init_20 rfl ?_
  refine V_iconst (pc := 21) (v := 1) X dX8_init_21 (by decide) ?_
  refine V_callI (pc := 22) X _ (c_end (e := 1) (by rw [qK_nO, if_pos rfl])) cw_X8_9 (Q.room (by decide) (by decide)) rfl (Nat.le_of_ble_eq_true rfl) rfl (by omega) dX8_init_22 ?_
  rintro v22 h2 ⟨rfl, g1, d1, d2, d3, d4, d5⟩
  simp only [Option.toList_none, List.nil_append]
  have F2 : Fr (fun _ => False) k1 h2 := d5.new ha2
  refine V_putF (pc := 25) X hin fl_X8_18 dX8_init_25 (F2.K kq1 (by decide)) ⟨rfl, rfl⟩ ?_
  obtain ⟨k2, ek2⟩ : ∃ k2, k2 = sF h2 801 q (.ref a2) := ⟨_, rfl⟩
  have S2 : Fr (fun a => a = q) k1 k2 := by rw [ek2]; exact stepF F2 (by decide)
  have p2 : qF k2 801 q = .ref a2 := by rw [ek2, qF_sF, if_pos ⟨rfl, rfl⟩]
  have kq2 := S2.K kq1 (by decide)
  have oq2 := S2.O (by rw [kq1]; decide) oq1
  rw [← ek2]
  have E12 : ∀ la, ER la k2 1 g1 ([], [], [], [], 0, 0, 0) := fun la => (d3 la).fr (S := fun a => a = q) (by rw [ek2]; exact Fr_sF (f := 801) rfl) (fun a y => own_te (F2.O (by rw [kq1]; decide) oq1) (by decide) y)
  have l12 : ∀ i, 4 ≤ i → i ≤ 5 → qL k2 (g1 i) = [] ∧ qC k2 (g1 i) = 0 := fun i a b => by rw [ek2]; exact d4 i a b
  refine V_aload_n (pc := 28) X 0 dX8_init_28 rfl ?_
  refine V_new (pc := 29) (u := 3) X clk0 (by decide) nw_X8_21 (by decide) (by omega) dX8_init_29 (fun a3 ha3 => ?_)
  refine V_dup (pc := 32) X dX8_init_32 rfl ?_
  refine V_callN (pc := 33) X _ (c_centre (by rw [qK_nO, if_pos rfl])) cw_X8_23 (Q.room (by decide) (by decide)) rfl (Nat.le_of_ble_eq_true rfl) rfl (by omega) dX8_init_33 ?_
  rintro v33 h3 ⟨rfl, gc, c1, c2, c3, c4, c5⟩
  simp only [Option.toList_none, List.nil_append]
  have F3 : Fr (fun _ => False) k2 h3 := c5.new ha3
  refine V_putF (pc := 36) X hin fl_X8_24 dX8_init_36 (F3.K kq2 (by decide)) ⟨rfl, rfl⟩ ?_
  obtain ⟨k3, ek3⟩ : ∃ k3, k3 = sF h3 802 q (.ref a3) := ⟨_, rfl⟩
  have S3 : Fr (fun a => a = q) k2 k3 := by rw [ek3]; exact stepF F3 (by decide)
  have p3 : qF k3 802 q = .ref a3 := by rw [ek3, qF_sF, if_pos ⟨rfl, rfl⟩]
  have kq3 := S3.K kq2 (by decide)
  have oq3 := S3.O (by rw [kq2]; decide) oq2
  rw [← ek3]
  have C3 : ∀ la, CE la k3 gc [] := fun la => (c3 la).fr (S := fun a => a = q) (by rw [ek3]; exact Fr_sF (f := 802) rfl) (fun i hi => own_te (F3.O (by rw [kq2]; decide) oq2) (by decide) ((c3 la).2.2.2.2.2.2.2 i hi))
  have lc3 : qL k3 (gc 2) = [] := by rw [ek3]; exact c4
  refine V_aload_n (pc := 39) X 0 dX8_init_39 rfl ?_
  refine V_new (pc := 40) (u := 3) X clk7 (by decide) nw_X8_28 (by decide) (by omega) dX8_init_40 (fun t ht => ?_)
  refine V_dup (pc := 43) X dX8_init_43 rfl ?_
  refine V_callN (pc := 44) X _ (c_text (by rw [qK_nO, if_pos rfl])) cw_X8_30 (Q.room (by decide) (by decide)) rfl (Nat.le_of_ble_eq_true rfl) rfl (by omega) dX8_init_44 ?_
  rintro v44 h44 ⟨rfl, tl, t0, tx, tf, tF⟩
  simp only [Option.toList_none, List.nil_append]
  have F40 : Fr (fun _ => False) k3 h44 := (Fr_nO ht).trans tF (fun _ _ y => y) (fun a ha y => ha (by rw [y]; exact ht))
  have htl : qK k3 tl = 0 := by
    rw [qK_nO] at t0
    by_cases y : tl = t
    · rw [if_pos y] at t0; exact absurd t0 (by decide)
    · rw [if_neg y] at t0; exact t0
  refine V_own t (te 3) (V_own tl (te 3) ?_)
  obtain ⟨h4, eh4⟩ : ∃ h4, h4 = sF (sF h44 9999 t (te 3)) 9999 tl (te 3) := ⟨_, rfl⟩
  have F4 : Fr (fun _ => False) k3 h4 := by rw [eh4]; exact (F40.own ht).own htl
  have tx4 : ∀ la, TX la h4 t tl [] 0 := fun la => by
    rw [eh4]
    exact ⟨(tx la).1, (qF_own (by decide)).trans ((qF_own (by decide)).trans (tx la).2.1), (tx la).2.2⟩
  have ott : own h4 t = te 3 := by
    rw [eh4]
    by_cases y : t = tl
    · rw [y]; exact own_own
    · rw [own_ne y]; exact own_own
  have otl : own h4 tl = te 3 := by rw [eh4]; exact own_own
  rw [← eh4]
  refine V_putF (pc := 47) X hin fl_X8_31 dX8_init_47 (F4.K kq3 (by decide)) ⟨rfl, rfl⟩ ?_
  obtain ⟨k4, ek4⟩ : ∃ k4, k4 = sF h4 803 q (.ref t) := ⟨_, rfl⟩
  have S4 : Fr (fun a => a = q) k3 k4 := by rw [ek4]; exact stepF F4 (by decide)
  have p4 : qF k4 803 q = .ref t := by rw [ek4, qF_sF, if_pos ⟨rfl, rfl⟩]
  have kq4 := S4.K kq3 (by decide)
  have oq4 := S4.O (by rw [kq3]; decide) oq3
  rw [← ek4]
  have T4 : ∀ la, TX la k4 t tl [] 0 := fun la => (tx4 la).fr (S := fun a => a = q) (by rw [ek4]; exact Fr_sF (f := 803) rfl) (own_te (F4.O (by rw [kq3]; decide) oq3) (by decide) ott) (own_te (F4.O (by rw [kq3]; decide) oq3) (by decide) otl)
  have ot4 : own k4 t = te 3 := by rw [ek4]; unfold own; rw [qF_sF, if_neg (fun y => by omega)]; exact ott
  have ol4 : own k4 tl = te 3 := by rw [ek4]; unfold own; rw [qF_sF, if_neg (fun y => by omega)]; exact otl
  refine V_aload_n (pc := 50) X 0 dX8_init_50 rfl ?_
  refine V_new (pc := 51) (u := 3) X clk1 (by decide) nw_X8_35 (by decide) (by omega) dX8_init_51 (fun a5 ha5 => ?_)
  refine V_dup (pc := 54) X dX8_init_54 rfl ?_
  refine V_callN (pc := 55) X _ (c_changes (by rw [qK_nO, if_pos rfl])) cw_X8_37 (Q.room (by decide) (by decide)) rfl (Nat.le_of_ble_eq_true rfl) rfl (by omega) dX8_init_55 ?_
  rintro v55 h5 ⟨rfl, gx, x1, x2, x3, x4, x5⟩
  simp only [Option.toList_none, List.nil_append]
  have F5 : Fr (fun _ => False) k4 h5 := x5.new ha5
  refine V_putF (pc := 58) X hin fl_X8_38 dX8_init_58 (F5.K kq4 (by decide)) ⟨rfl, rfl⟩ ?_
  obtain ⟨k5, ek5⟩ : ∃ k5, k5 = sF h5 804 q (.ref a5) := ⟨_, rfl⟩
  have S5 : Fr (fun a => a = q) k4 k5 := by rw [ek5]; exact stepF F5 (by decide)
  have p5 : qF k5 804 q = .ref a5 := by rw [ek5, qF_sF, if_pos ⟨rfl, rfl⟩]
  have kq5 := S5.K kq4 (by decide)
  have oq5 := S5.O (by rw [kq4]; decide) oq4
  rw [← ek5]
  refine V_aload_n (pc := 61) X 0 dX8_init_61 rfl ?_
  refine V_iconst (pc := 62) (v := 0) X dX8_init_62 (by decide) ?_
  refine V_put (pc := 63) X fl_X8_42 dX8_init_63 kq5 ⟨rfl, rfl⟩ ?_
  obtain ⟨k6, ek6⟩ : ∃ k6, k6 = sF k5 805 q (.int 0) := ⟨_, rfl⟩
  have S6 : Fr (fun a => a = q) k5 k6 := by rw [ek6]; exact Fr_sF (f := 805) rfl
  rw [← ek6]
  refine V_vret (pc := 66) X Q rfl dX8_init_66 ?_
  have nq : ∀ f, f ≠ 800 → f ≠ 801 → f ≠ 802 → f ≠ 803 → f ≠ 804 → f ≠ 805 → True := fun _ _ _ _ _ _ _ => trivial
  have U2 : Fr (fun a => a = q) k1 k6 := (((S2.seq S3).seq S4).seq S5).seq S6
  have U3 : Fr (fun a => a = q) k2 k6 := ((S3.seq S4).seq S5).seq S6
  have U4 : Fr (fun a => a = q) k3 k6 := (S4.seq S5).seq S6
  have U5 : Fr (fun a => a = q) k4 k6 := S5.seq S6
  have kq6 := S6.K kq5 (by decide)
  have keep : ∀ (f : Nat) (v : Value), (f ≠ 805) → qF k5 f q = v → qF k6 f q = v := fun f v h1 y => by rw [ek6, qF_sF, if_neg (fun u => h1 u.1)]; exact y
  have keep5 : ∀ (f : Nat) (v : Value), f ≠ 804 → qF k4 f q = v → qF k5 f q = v := fun f v h1 y => by rw [ek5, qF_sF, if_neg (fun u => h1 u.1)]; exact F5.F (by rw [kq4]; decide) (fun u => u) y
  have keep4 : ∀ (f : Nat) (v : Value), f ≠ 803 → qF k3 f q = v → qF k4 f q = v := fun f v h1 y => by rw [ek4, qF_sF, if_neg (fun u => h1 u.1)]; exact F4.F (by rw [kq3]; decide) (fun u => u) y
  have keep3 : ∀ (f : Nat) (v : Value), f ≠ 802 → qF k2 f q = v → qF k3 f q = v := fun f v h1 y => by rw [ek3, qF_sF, if_neg (fun u => h1 u.1)]; exact F3.F (by rw [kq2]; decide) (fun u => u) y
  have keep2 : ∀ (f : Nat) (v : Value), f ≠ 801 → qF k1 f q = v → qF k2 f q = v := fun f v h1 y => by rw [ek2, qF_sF, if_neg (fun u => h1 u.1)]; exact F2.F (by rw [kq1]; decide) (fun u => u) y
  have e00 : g0 0 = a1 := b1
  have e10 : g1 0 = a2 := d1
  obtain ⟨G, eG⟩ : ∃ G : GQ, G = (fun _ => 0, fun e => if e = 0 then g0 else g1, gc, fun i => if i = 0 then t else if i = 1 then tl else gx (i - 2)) := ⟨_, rfl⟩
  have E0 : ER G.1 k6 0 g0 z0E := (E01 G.1).fr U2 (fun a y => own_te oq1 (by decide) y)
  have E1 : ER G.1 k6 1 g1 z0E := (E12 G.1).fr U3 (fun a y => own_te oq2 (by decide) y)
  have CC : CE G.1 k6 gc [] := (C3 G.1).fr U4 (fun i hi => own_te oq3 (by decide) ((C3 G.1).2.2.2.2.2.2.2 i hi))
  have L0 : ∀ i, 4 ≤ i → i ≤ 5 → qL k6 (g0 i) = [] ∧ qC k6 (g0 i) = 0 := fun i a b => by
    have es := (E01 G.1).1
    have k := es.k i (by omega) (by omega)
    have n := own_te oq1 (by decide) (es.o i (by omega))
    exact ⟨(U2.L k n).trans (l01 i a b).1, (U2.C k n).trans (l01 i a b).2⟩
  have L1 : ∀ i, 4 ≤ i → i ≤ 5 → qL k6 (g1 i) = [] ∧ qC k6 (g1 i) = 0 := fun i a b => by
    have es := (E12 G.1).1
    have k := es.k i (by omega) (by omega)
    have n := own_te oq2 (by decide) (es.o i (by omega))
    exact ⟨(U3.L k n).trans (l12 i a b).1, (U3.C k n).trans (l12 i a b).2⟩
  have LC : qL k6 (gc 2) = [] := (U4.L (by have := (C3 G.1).2.2.2.2.1; omega) (own_te oq3 (by decide) ((C3 G.1).2.2.2.2.2.2.2 2 (by decide)))).trans lc3
  have TT : TX G.1 k6 t tl [] 0 := (T4 G.1).fr U5 (own_te oq4 (by decide) ot4) (own_te oq4 (by decide) ol4)
  have oh5 : own h5 q = te 5 := F5.O (by rw [kq4]; decide) oq4
  have V6 : Fr (fun a => a = q) h5 k6 := by rw [ek6, ek5]; exact (Fr_sF (S := fun a => a = q) (f := 804) rfl).seq (Fr_sF (f := 805) rfl)
  have R4 : RC4 h5 (fun i => if i = 0 then t else if i = 1 then tl else gx (i - 2)) := ⟨by show CG h5 (gx 0) (gx 1) (gx 2); rw [x1]; exact x3, fun i a b => by
    show own h5 (if i = 0 then t else if i = 1 then tl else gx (i - 2)) = te 4
    rw [if_neg (by omega), if_neg (by omega)]
    exact x4 (i - 2) (by omega)⟩
  have S06 : Fs q h k6 := fun a ha haq => by
    obtain ⟨s1, s2, s3, s4, s5, s6⟩ := S0 a ha haq
    have ha0 : qK k0 a ≠ 0 := by rw [s1]; exact ha
    obtain ⟨p1, p2, p3⟩ := (S1.seq U2) a ha0
    obtain ⟨r1, r2, r3, r4⟩ := p3 haq
    exact ⟨p1.trans s1, p2.trans s2, fun f => (r1 f).trans (s3 f), r2.trans s4, r3.trans s5, r4.trans s6⟩
  refine ⟨rfl, ⟨G, ?_, fun e he => ?_, ?_, ?_, ?_, ?_, ?_⟩, S06⟩
  · rw [eG]
    refine ⟨kq6, ?_, ?_, ?_, ?_, ?_, ?_, S6.O (by rw [kq5]; decide) oq5⟩
    · show _ = Value.ref (g0 0)
      rw [e00]; exact keep _ _ (by decide) (keep5 _ _ (by decide) (keep4 _ _ (by decide) (keep3 _ _ (by decide) (keep2 _ _ (by decide) p1))))
    · show _ = Value.ref (g1 0)
      rw [e10]; exact keep _ _ (by decide) (keep5 _ _ (by decide) (keep4 _ _ (by decide) (keep3 _ _ (by decide) p2)))
    · show _ = Value.ref (gc 0)
      rw [c1]; exact keep _ _ (by decide) (keep5 _ _ (by decide) (keep4 _ _ (by decide) p3))
    · exact keep _ _ (by decide) (keep5 _ _ (by decide) p4)
    · show _ = Value.ref (gx 0)
      rw [x1]; exact keep _ _ (by decide) p5
    · rw [ek6, qF_sF, if_pos ⟨rfl, rfl⟩]; rfl
  · rw [eG] at E0 E1 ⊢
    rcases (show e = 0 ∨ e = 1 by omega) with rfl | rfl
    · exact E0
    · exact E1
  · rw [eG] at CC ⊢; exact CC
  · rw [eG]
    refine ⟨[], fun _ => [], LC, HS.nil _ _, fun e he => ⟨HS.nil _ _, ?_⟩, List.nodup_nil, fun e he => ⟨List.nodup_nil, fun m hm => absurd hm List.not_mem_nil⟩, fun m hm => absurd hm List.not_mem_nil⟩
    rcases (show e = 0 ∨ e = 1 by omega) with rfl | rfl
    · exact ⟨(L0 4 (by decide) (by decide)).1, by show qC k6 (g0 4) ≤ 301; rw [(L0 4 (by decide) (by decide)).2]; decide, (L0 5 (by decide) (by decide)).1, by show qC k6 (g0 5) ≤ 301; rw [(L0 5 (by decide) (by decide)).2]; decide⟩
    · exact ⟨(L1 4 (by decide) (by decide)).1, by show qC k6 (g1 4) ≤ 301; rw [(L1 4 (by decide) (by decide)).2]; decide, (L1 5 (by decide) (by decide)).1, by show qC k6 (g1 5) ≤ 301; rw [(L1 5 (by decide) (by decide)).2]; decide⟩
  · rw [eG] at TT ⊢
    have kt := U5.O (by rw [(T4 (fun _ => 0)).1]; decide) ot4
    have ktl := U5.O (by rw [(T4 (fun _ => 0)).2.2.1]; decide) ol4
    exact ⟨[], 0, TT, by decide, fun y hy => absurd hy List.not_mem_nil, kt, ktl⟩
  · rw [eG]
    exact R4.fr V6 (fun a y => own_te oh5 (by decide) y)
  · exact ⟨fun x hx => absurd hx List.not_mem_nil, fun x hx => absurd hx List.not_mem_nil⟩
