/-! THE LAW'S BODY -/
def aH0 : AH := (fun _ => 0, fun _ _ => .null, fun _ => [], fun _ => 0, fun _ => [])
theorem law_body {E : EV} {Γ : VG} {b0 L : Nat} {xs : Nat → Int32} (lw : LW E Γ b0 L xs) : V E Γ 1700000 aH0 0 [(0, .ref b0)] [] := by
  have lw0 := lw
  obtain ⟨X, nx, hX, hbl, hbA, hRm, hL, hend⟩ := lw
  refine V_new (pc := 0) (u := 3) X clk8 (by decide) nw_L_8 (by decide) ⟨by decide, by decide, by omega⟩ dL_law_0 (fun q hq => ?_)
  refine V_dup (pc := 3) X dL_law_3 rfl ?_
  refine V_callI (pc := 4) X _ (c_couplet (by rw [qK_nO, if_pos rfl])) cw_L_119 (hRm _ _ (by decide) (by decide)) rfl (Nat.le_of_ble_eq_true rfl) rfl (by omega) dL_law_4 ?_
  rintro v4 h4 ⟨rfl, ⟨G, z⟩, fs4⟩
  simp only [Option.toList_none, List.nil_append]
  refine V_astore_n (pc := 7) X [(1, .ref _), (0, .ref _)] dL_law_7 rfl (by decide) rfl ?_
  refine V_new (pc := 8) (u := 8) X clk9 (by decide) nw_L_120 (by decide) ⟨by decide, by decide, by omega⟩ dL_law_8 (fun q2 hq2 => ?_)
  refine V_dup (pc := 11) X dL_law_11 rfl ?_
  refine V_callI (pc := 12) X _ (y_model (by rw [qK_nO, if_pos rfl]) (fun i hi => by unfold isS at hi; rw [qF_nO, if_pos rfl]; rcases (show i = 900 ∨ i = 926 ∨ i = 927 ∨ i = 928 by omega) with rfl | rfl | rfl | rfl <;> decide)) cw_L_122 (hRm _ _ (by decide) (by decide)) rfl (Nat.le_of_ble_eq_true rfl) rfl (by omega) dL_law_12 ?_
  rintro v12 h12 ⟨rfl, A, mp, fs12⟩
  simp only [Option.toList_none, List.nil_append]
  have F12 : Fr (fun _ => False) h4 h12 := fs12.new hq2
  have z2 : RC h12 q G z0S := z.fr (F12.mono (fun _ _ y => y.elim))
  refine V_astore_n (pc := 15) X [(2, .ref _), (1, .ref _), (0, .ref _)] dL_law_15 rfl (by decide) rfl ?_
  refine V_iconst (pc := 16) (v := 1) X dL_law_16 (by decide) ?_
  refine V_newarrJ (pc := 17) X (by omega) ac_long dL_law_17 (fun o1 ho1 => ?_)
  refine V_own o1 (.ref 11) ?_
  have F17 : Fr (fun _ => False) h12 (sF (sF (sK h12 o1 16) 1600 o1 (.long 0)) 9999 o1 (.ref 11)) := (((Fr_sK (S := fun b => b = o1) ho1).seq (Fr_sF (f := 1600) rfl)).mono (fun b hb y => hb (by rw [y]; exact ho1))).own ho1
  have ko1 : qK (sF (sF (sK h12 o1 16) 1600 o1 (.long 0)) 9999 o1 (.ref 11)) o1 = 16 := by rw [qK_sF, qK_sF, qK_sK, if_pos rfl]
  have wo1 : own (sF (sF (sK h12 o1 16) 1600 o1 (.long 0)) 9999 o1 (.ref 11)) o1 = .ref 11 := own_own
  obtain ⟨h17, eh17⟩ : ∃ x, x = sF (sF (sK h12 o1 16) 1600 o1 (.long 0)) 9999 o1 (.ref 11) := ⟨_, rfl⟩
  rw [← eh17] at F17 ko1 wo1 ⊢
  refine V_astore_n (pc := 19) X [(3, .ref _), (2, .ref _), (1, .ref _), (0, .ref _)] dL_law_19 rfl (by decide) rfl ?_
  refine V_iconst (pc := 20) (v := 1) X dL_law_20 (by decide) ?_
  refine V_newarrD (pc := 21) X (by omega) ac_double dL_law_21 (fun o2 ho2 => ?_)
  refine V_own o2 (.ref 11) ?_
  have F21 : Fr (fun _ => False) h17 (sF (sF (sK h17 o2 17) 1700 o2 (.double 0)) 9999 o2 (.ref 11)) := (((Fr_sK (S := fun b => b = o2) ho2).seq (Fr_sF (f := 1700) rfl)).mono (fun b hb y => hb (by rw [y]; exact ho2))).own ho2
  have ko2 : qK (sF (sF (sK h17 o2 17) 1700 o2 (.double 0)) 9999 o2 (.ref 11)) o2 = 17 := by rw [qK_sF, qK_sF, qK_sK, if_pos rfl]
  have wo2 : own (sF (sF (sK h17 o2 17) 1700 o2 (.double 0)) 9999 o2 (.ref 11)) o2 = .ref 11 := own_own
  obtain ⟨h21, eh21⟩ : ∃ x, x = sF (sF (sK h17 o2 17) 1700 o2 (.double 0)) 9999 o2 (.ref 11) := ⟨_, rfl⟩
  rw [← eh21] at F21 ko2 wo2 ⊢
  refine V_astore (pc := 23) X [(4, .ref _), (3, .ref _), (2, .ref _), (1, .ref _), (0, .ref _)] dL_law_23 (by decide) rfl ?_
  refine V_iconst (pc := 25) (v := 0) X dL_law_25 (by decide) ?_
  refine V_istore (pc := 26) X [(5, .int _), (4, .ref _), (3, .ref _), (2, .ref _), (1, .ref _), (0, .ref _)] dL_law_26 (by decide) rfl ?_
  have mp3 : MP h21 q2 A (fun _ _ => 0) := (mp.fr F17 (fun _ _ y => y)).fr F21 (fun _ _ y => y)
  have z3 : RC h21 q G z0S := (z2.fr (F17.mono (fun _ _ y => y.elim))).fr (F21.mono (fun _ _ y => y.elim))
  have hPh : Ph z0S = 840000 := rfl
  refine V.sub [0, 5, 4, 3, 2, 1] rfl (V.less (b' := 335 * (L - 0) + Ph z0S) (by omega) (law_loop lw0 (L + 5) 0 h21 z0S (by omega) (by omega) ⟨⟨G, z3⟩, ⟨_, mp3, RM_0⟩, INV_0, TOs_0, F21.K ko1 (by decide), F21.O (by rw [ko1]; decide) wo1, ko2, wo2⟩))
