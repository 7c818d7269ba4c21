theorem rawP_mk {E : EV} {h0 hr : AH} {a e1 c : Nat} {m : Int32} {xs : List Nat} {r : List Nat} (k1 : qK hr a = 18) (hm : qF hr 1000 a = .int m) (he : qF hr 1001 a = .ref e1) (h0c : 0 < c) (ke : qK hr e1 = 19) (hr' : r = enc xs c) (hl : xs.length ≤ c) (f1 : ∀ b, b ≠ a → b ≠ e1 → qK hr b = qK h0 b) (f2 : ∀ f b, b ≠ a → qF hr f b = qF h0 f b) (f3 : ∀ b, b ≠ e1 → qK h0 b ≠ 0 → qL hr b = qL h0 b) (f4 : ∀ b, qC hr b = qC h0 b) (f5 : ∀ b, qI hr b = qI h0 b) : rawP E h0 (sF (sR hr e1 r) 1002 a (.int (nI xs.length))) a e1 c xs := by
  refine ⟨k1, ⟨m, ?_⟩, ?_, ?_, h0c, ke, ?_, hl, f1, fun f b hb => ?_, fun b hb hb2 => ?_, fun b => ?_, f5⟩
  · rw [qF_sF, if_neg (fun z => by omega)]; exact hm
  · rw [qF_sF, if_neg (fun z => by omega)]; exact he
  · rw [qF_sF, if_pos ⟨rfl, rfl⟩]
  · show (if e1 = e1 then r else _) = _
    rw [if_pos rfl]; exact hr'
  · rw [qF_sF, if_neg (fun z => hb z.2)]; exact f2 f b hb
  · show (if b = e1 then r else qL hr b) = _
    rw [if_neg hb]; exact f3 b hb hb2
  · show (if b = e1 then qC hr e1 else qC hr b) = _
    split
    · next z => rw [z]; exact f4 e1
    · exact f4 b
theorem sF_sR (h : AH) (f a e : Nat) (v : Value) (r : List Nat) : sR (sF h f a v) e r = sF (sR h e r) f a v := rfl
def clr (r : List Nat) (i : Nat) : List Nat := List.replicate i 0 ++ r.drop i
theorem clr_0 (r : List Nat) : clr r 0 = r := by simp [clr]
theorem clr_len {r : List Nat} {i : Nat} (h : i ≤ r.length) : (clr r i).length = r.length := by simp [clr]; omega
theorem clr_getD {r : List Nat} {i j : Nat} : (clr r i).getD j 0 = if j < i then 0 else r.getD j 0 := by
  unfold clr
  simp only [List.getD_eq_getElem?_getD]
  by_cases h1 : j < i
  · rw [if_pos h1, List.getElem?_append_left (by simpa using h1), List.getElem?_replicate, if_pos h1]; rfl
  · rw [if_neg h1, List.getElem?_append_right (by simp; omega), List.getElem?_drop, List.length_replicate]
    congr 2; omega
theorem clr_set {r : List Nat} {i : Nat} (h : i < r.length) : (clr r i).set i 0 = clr r (i + 1) := by
  refine ext_getD (by rw [List.length_set, clr_len (by omega), clr_len (by omega)]) (fun j hj => ?_)
  rw [List.length_set] at hj
  rw [lset_getD hj, clr_getD, clr_getD]
  by_cases e : j = i
  · rw [if_pos e, if_pos (by omega)]
  · rw [if_neg e]
    by_cases l : j < i
    · rw [if_pos l, if_pos (by omega)]
    · rw [if_neg l, if_neg (by omega)]
theorem clr_end {xs : List Nat} {c : Nat} (h : xs.length ≤ c) : clr (enc xs c) xs.length = enc [] c := by
  refine ext_getD (by rw [clr_len (by rw [enc_len h]; exact h), enc_len h, enc_len (Nat.zero_le _)]) (fun j hj => ?_)
  rw [clr_getD, enc_getD, enc_getD, if_neg (show ¬ j < ([] : List Nat).length from Nat.not_lt_zero _)]
  split
  · rfl
  · rfl
theorem c_rchk {E : EV} {h : AH} {a : Nat} {i n : Int32} (hk : qK h a = 18) (hs : qF h 1002 a = .int n) (h0 : ¬ i < 0) (h1 : ¬ n < i) : Ct E yJx4a65c_rangeCheckForAdd_d00df cJx4a65c_rangeCheckForAdd_d00df 2 none 1 0 [.ref a, .int i] h (fun v h1 => v = none ∧ h1 = h) noX := by
  refine Ct_of RJx4a65c (by decide +kernel) rfl (Nat.le_of_ble_eq_true rfl) (fun Γ X nt Q hin => ?_)
  refine V_iload_n (pc := 0) X 1 dJx4a65c_rangeCheckForAdd_d00df_0 rfl ?_
  refine V_aload_n (pc := 1) X 0 dJx4a65c_rangeCheckForAdd_d00df_1 rfl ?_
  refine V_getL (pc := 2) X fr_Jx4a65c_48 inW10 dJx4a65c_rangeCheckForAdd_d00df_2 hk hs ?_
  refine V_icmp_gt (pc := 5) X 12 dJx4a65c_rangeCheckForAdd_d00df_5 (by decide) (fun c5 => ?_) (fun c5 => ?_)
  · exact absurd c5 h1
  · refine V_iload_n (pc := 8) X 1 dJx4a65c_rangeCheckForAdd_d00df_8 rfl ?_
    refine V_if_ge (pc := 9) X 25 dJx4a65c_rangeCheckForAdd_d00df_9 (by decide) (fun c9 => ?_) (fun c9 => ?_)
    · refine V_vret (pc := 25) X Q rfl dJx4a65c_rangeCheckForAdd_d00df_25 ?_
      exact ⟨rfl, rfl⟩
    · exact absurd (Int32.not_lt.mp h0) c9
theorem c_addAt {E : EV} {h : AH} {a x i : Nat} (hk : qK h a = 11) (hx : 1 ≤ qK h x ∧ qK h x ≤ 10) (hc : qC h a < 20000) (hi : i ≤ (qL h a).length) (ho : ∀ y ∈ qL h a, 1 ≤ qK h y ∧ qK h y ≤ 10) : Ct E yJx4a65c_add_7a177 cJx4a65c_add_7a177 5 none 7 (gcap (qL h a).length (qC h a) - qC h a) [.ref a, .int (nI i), .ref x] h (fun v h1 => v = none ∧ h1 = sL h a (lIns (qL h a) i x) (gcap (qL h a).length (qC h a))) noX := by
  refine Ct_of RJx4a65c (by decide +kernel) rfl (Nat.le_of_ble_eq_true rfl) (fun Γ X nt Q hin => ?_)
  refine V_open X hk (fun e m z0 z1 => ?_)
  have ok : ∀ z, 1 ≤ qK h z ∧ qK h z ≤ 10 → 1 ≤ qK (rawL h a e m) z ∧ qK (rawL h a e m) z ≤ 10 := fun z hz => by
    rw [show qK (rawL h a e m) z = (if z = a then 18 else if z = e ∧ 0 < qC h a then 19 else qK h z) from rfl, if_neg (fun y => by rw [y, hk] at hz; omega), if_neg (fun y => by rw [y.1, (z1 y.2).1] at hz; omega)]
    exact hz
  have ra : qK (rawL h a e m) a = 18 := by simp [qK, rawL]
  have rm : qF (rawL h a e m) 1000 a = .int m := by simp [qF, rawL]
  have re : qF (rawL h a e m) 1001 a = .ref e := by simp [qF, rawL]
  have rs : qF (rawL h a e m) 1002 a = .int (nI (qL h a).length) := by simp [qF, rawL]
  have rk : 0 < qC h a → qK (rawL h a e m) e = 19 ∧ qL (rawL h a e m) e = enc (qL h a) (qC h a) := fun z => ⟨by simp [qK, rawL, (z1 z).2.1, z], raw_row z⟩
  have rl : (qL h a).length ≤ qC h a := by
    rcases Nat.eq_zero_or_pos (qC h a) with z | z
    · rw [(z0 z).2]; exact Nat.zero_le _
    · exact (z1 z).2.2.1
  have h10 : qC h a = 0 ∨ 10 ≤ qC h a := by
    rcases Nat.eq_zero_or_pos (qC h a) with z | z
    · exact Or.inl z
    · exact Or.inr (z1 z).2.2.2.1
  have hgc := gcap_le (qL h a).length (qC h a)
  have hgt := gcap_gt rl
  have hgb0 : 10 ≤ gcap (qL h a).length (qC h a) ∧ gcap (qL h a).length (qC h a) < 40000 := by unfold gcap; split <;> (try split) <;> omega
  refine V_aload_n (pc := 0) X 0 dJx4a65c_add_7a177_0 rfl ?_
  refine V_iload_n (pc := 1) X 1 dJx4a65c_add_7a177_1 rfl ?_
  refine V_callL (pc := 2) X (Or.inr ra) _ (c_rchk ra rs (nI_pos (by omega)) (nI_nlt hi (by omega))) cw_Jx4a65c_135 (Q.room (by decide) (by decide)) rfl (Nat.le_of_ble_eq_true rfl) rfl (by omega) dJx4a65c_add_7a177_2 (fun _ _ z => z.elim) ?_
  rintro v2 h2 ⟨rfl, rfl⟩
  simp only [Option.toList_none, List.nil_append]
  refine V_aload_n (pc := 5) X 0 dJx4a65c_add_7a177_5 rfl ?_
  refine V_dup (pc := 6) X dJx4a65c_add_7a177_6 rfl ?_
  refine V_getL (pc := 7) X fr_Jx4a65c_63 inW10 dJx4a65c_add_7a177_7 ra rm ?_
  refine V_iconst (pc := 10) (v := 1) X dJx4a65c_add_7a177_10 (by decide) ?_
  refine V_iadd (pc := 11) X dJx4a65c_add_7a177_11 ?_
  refine V_putL (pc := 12) X fr_Jx4a65c_63 inW10 dJx4a65c_add_7a177_12 ra ⟨rfl, rfl⟩ ?_
  refine V_aload_n (pc := 15) X 0 dJx4a65c_add_7a177_15 rfl ?_
  refine V_getL (pc := 16) X fr_Jx4a65c_48 inW10 dJx4a65c_add_7a177_16 ra (v := .int (nI (qL h a).length)) (by rw [qF_sF, if_neg (fun z => by omega)]; exact rs) ?_
  refine V_dup (pc := 19) X dJx4a65c_add_7a177_19 rfl ?_
  refine V_istore_n (pc := 20) X [(3, .int _), (0, .ref _), (1, .int _), (2, .ref _)] dJx4a65c_add_7a177_20 rfl (by decide) rfl ?_
  refine V_aload_n (pc := 21) X 1 dJx4a65c_add_7a177_21 rfl ?_
  refine V_getL (pc := 22) X fr_Jx4a65c_9 inW10 dJx4a65c_add_7a177_22 ra (v := .ref e) (by rw [qF_sF, if_neg (fun z => by omega)]; exact re) ?_
  refine V_dup (pc := 25) X dJx4a65c_add_7a177_25 rfl ?_
  refine V_astore (pc := 26) X [(4, .ref _), (3, .int _), (0, .ref _), (1, .int _), (2, .ref _)] dJx4a65c_add_7a177_26 (by decide) rfl ?_
  refine a3_len (h := (sF (rawL h a e m) 1000 a (.int (m + 1)))) X (fun z => (z0 z).1) rk rl dJx4a65c_add_7a177_28 ?_
  refine V_icmp_ne (pc := 29) X 38 dJx4a65c_add_7a177_29 (by decide) (fun c29 => ?_) (fun c29 => ?_)
  · have hlt : (qL h a).length < qC h a := by
      rcases Nat.lt_or_ge (qL h a).length (qC h a) with z | z
      · exact z
      · exact absurd (congrArg nI (show (qL h a).length = qC h a by omega)) c29
    obtain ⟨c1, hc1⟩ : ∃ c1, c1 = gcap (qL h a).length (qC h a) := ⟨_, rfl⟩
    have hg : c1 = qC h a := by rw [hc1]; unfold gcap; rw [if_pos hlt]
    obtain ⟨e1, he1⟩ : ∃ e1, e1 = e := ⟨_, rfl⟩
    obtain ⟨hr, hhr⟩ : ∃ hr, hr = sF (rawL h a e m) 1000 a (.int (m + 1)) := ⟨_, rfl⟩
    have hgb : 10 ≤ c1 ∧ c1 < 40000 := ⟨by omega, by omega⟩
    have kk0 : qK hr a = 18 := by rw [hhr]; exact ra
    have kk1 : qK hr e1 = 19 := by rw [hhr, he1]; exact (rk (by omega)).1
    have kk2 : qL hr e1 = enc (qL h a) c1 := by rw [hhr, he1, hg]; exact (rk (by omega)).2
    have kk3 : ∀ z, 1 ≤ qK h z ∧ qK h z ≤ 10 → 1 ≤ qK hr z ∧ qK hr z ≤ 10 := by rw [hhr]; exact ok
    have kk4 : qF hr 1000 a = .int (m + 1) := by rw [hhr, qF_sF, if_pos ⟨rfl, rfl⟩]
    have kk5 : qF hr 1001 a = .ref e1 := by rw [hhr, he1, qF_sF, if_neg (fun z => by omega)]; exact re
    have kk6 : ∀ b, b ≠ a → b ≠ e1 → qK hr b = qK (sF (rawL h a e m) 1000 a (.int (m + 1))) b := fun b _ _ => by rw [hhr]
    have kk7 : ∀ f b, b ≠ a → qF hr f b = qF (sF (rawL h a e m) 1000 a (.int (m + 1))) f b := fun f b _ => by rw [hhr]
    have kk8 : ∀ b, b ≠ e1 → qK (sF (rawL h a e m) 1000 a (.int (m + 1))) b ≠ 0 → qL hr b = qL (sF (rawL h a e m) 1000 a (.int (m + 1))) b := fun b _ _ => by rw [hhr]
    have kk9 : ∀ b, qC hr b = qC (sF (rawL h a e m) 1000 a (.int (m + 1))) b := fun b => by rw [hhr]
    have kk10 : ∀ b, qI hr b = qI (sF (rawL h a e m) 1000 a (.int (m + 1))) b := fun b => by rw [hhr]
    have y4 : e1 = e ∧ 0 < qC h a ∨ qK (sF (rawL h a e m) 1000 a (.int (m + 1))) e1 = 0 := Or.inl ⟨he1, by omega⟩
    have y5 : e1 ≠ a := by rw [he1]; exact (z1 (by omega)).2.1
    refine V.heap hhr.symm ?_
    refine V.eq (lv' := [(4, .ref e1), (3, .int (nI (qL h a).length)), (0, .ref a), (1, .int (nI i)), (2, .ref x)]) (st' := []) (by rw [he1]) rfl ?_
    refine V_aload (pc := 38) X 0 dJx4a65c_add_7a177_38 rfl ?_
    refine V_iload_n (pc := 40) X 3 dJx4a65c_add_7a177_40 rfl ?_
    refine V_aload (pc := 41) X 0 dJx4a65c_add_7a177_41 rfl ?_
    refine V_iload_n (pc := 43) X 3 dJx4a65c_add_7a177_43 rfl ?_
    refine V_iconst (pc := 44) (v := 1) X dJx4a65c_add_7a177_44 (by decide) ?_
    refine V_iadd (pc := 45) X dJx4a65c_add_7a177_45 ?_
    refine V_iload_n (pc := 46) X 1 dJx4a65c_add_7a177_46 rfl ?_
    refine V_iload_n (pc := 47) X 3 dJx4a65c_add_7a177_47 rfl ?_
    refine V_isub (pc := 48) X dJx4a65c_add_7a177_48 ?_
    refine V_copy (pc := 49) X ay_Jx4a65c_112 kk1 kk1 (nI_pos (by omega)) (by rw [nI_1]; exact nI_pos (by omega)) (by rw [pk_sub (by omega)]; exact nI_pos (by omega)) (by rw [kk2, enc_len (by omega), pk_sub (by omega), nI_clamp (by omega), nI_clamp (by omega)]; omega) (by rw [kk2, enc_len (by omega), nI_1, pk_sub (by omega), nI_clamp (by omega), nI_clamp (by omega)]; omega) (fun j hj y hy => by
        rw [kk2] at hy
        exact kk3 y (ho y (rdc_enc hy))) ⟨Q.fr (by decide), Q.lo (by decide)⟩ (Nat.le_of_ble_eq_true rfl) dJx4a65c_add_7a177_49 ?_
    rw [kk2, nI_1, pk_sub (by omega), nI_clamp (by omega), nI_clamp (by omega), nI_clamp (by omega)]
    refine V_aload (pc := 52) X 0 dJx4a65c_add_7a177_52 rfl ?_
    refine V_iload_n (pc := 54) X 3 dJx4a65c_add_7a177_54 rfl ?_
    refine V_aload_n (pc := 55) X 4 dJx4a65c_add_7a177_55 rfl ?_
    refine V_aast (pc := 56) X (by rw [qK_sL]; exact kk1) (by rw [qK_sL]; exact kk3 x hx) (by show vp_in _ (if _ = _ then _ else _ : List Nat).length; rw [if_pos rfl, rcp_len, enc_len (by omega)]; exact vp_in_nI (by omega) (by omega)) dJx4a65c_add_7a177_56 ?_
    rw [show qL (sR hr e1 (rcp (enc (qL h a) c1) (enc (qL h a) c1) i (i + 1) ((qL h a).length - i))) e1 = rcp (enc (qL h a) c1) (enc (qL h a) c1) i (i + 1) ((qL h a).length - i) from if_pos rfl, nI_clamp (by omega), enc_ins (by omega) hi, sR_sR]
    refine V_aload_n (pc := 57) X 2 dJx4a65c_add_7a177_57 rfl ?_
    refine V_iload_n (pc := 58) X 1 dJx4a65c_add_7a177_58 rfl ?_
    refine V_iconst (pc := 59) (v := 1) X dJx4a65c_add_7a177_59 (by decide) ?_
    refine V_iadd (pc := 60) X dJx4a65c_add_7a177_60 ?_
    refine V_putL (pc := 61) X fr_Jx4a65c_48 inW10 dJx4a65c_add_7a177_61 (by rw [qK_sL]; exact kk0) ⟨rfl, rfl⟩ ?_
    rw [nI_1, show (qL h a).length + 1 = (lIns (qL h a) i x).length from (ins_len hi).symm]
    refine cl_rawP (hr := sF (rawL h a e m) 1000 a (.int (m + 1))) hk z0 z1 rfl (fun f b hb => by rw [qF_sF, if_neg (fun z => hb z.2)]) rfl (fun _ => rfl) (fun _ => rfl) y4 y5 hgb (rawP_mk (m := m + 1) kk0 kk4 kk5 (by omega) kk1 rfl (by rw [ins_len hi]; omega) kk6 kk7 kk8 kk9 kk10) ?_
    refine V_vret (pc := 64) X Q rfl dJx4a65c_add_7a177_64 ?_
    exact ⟨rfl, by rw [hc1]⟩
  · have hlt : (qL h a).length = qC h a := (nI_eq (by omega) (by omega)).mp c29
    refine V_aload_n (pc := 32) X 2 dJx4a65c_add_7a177_32 rfl ?_
    refine V_callL (pc := 33) X (Or.inr ra) _ (c_grow0 (h := (sF (rawL h a e m) 1000 a (.int (m + 1)))) (c := qC h a) (xs := qL h a) ra (by rw [qF_sF, if_neg (fun z => by omega)]; exact re) (fun z => (z0 z).1) rk (by rw [qF_sF, if_neg (fun z => by omega)]; exact rs) hlt hc h10 (fun y hy => ok y (ho y hy))) cw_Jx4a65c_129 (Q.room (by decide) (by decide)) rfl (Nat.le_of_ble_eq_true rfl) rfl (by rw [hlt]; exact Nat.le_refl _) dJx4a65c_add_7a177_33 (fun _ _ z => z.elim) ?_
    rintro v33 h33 ⟨q33, rfl, hq33, rfl⟩
    simp only [Option.toList_some, List.cons_append, List.nil_append]
    obtain ⟨c1, hc1⟩ : ∃ c1, c1 = gcap (qL h a).length (qC h a) := ⟨_, rfl⟩
    have hg : gcap (qC h a) (qC h a) = c1 := by rw [hc1, hlt]
    obtain ⟨e1, he1⟩ : ∃ e1, e1 = q33 := ⟨_, rfl⟩
    rw [hg, ← he1]
    rw [← he1] at hq33
    have hqa : a ≠ e1 := fun z => by rw [← z] at hq33; rw [show qK (sF (rawL h a e m) 1000 a (.int (m + 1))) a = 18 from ra] at hq33; omega
    obtain ⟨hr, hhr⟩ : ∃ hr, hr = gR1 (sF (rawL h a e m) 1000 a (.int (m + 1))) a e1 (enc (qL h a) c1) := ⟨_, rfl⟩
    have hgb : 10 ≤ c1 ∧ c1 < 40000 := ⟨by omega, by omega⟩
    have kk0 : qK hr a = 18 := by rw [hhr, qK_gR1, if_neg hqa]; exact ra
    have kk1 : qK hr e1 = 19 := by rw [hhr, qK_gR1, if_pos rfl]
    have kk2 : qL hr e1 = enc (qL h a) c1 := by rw [hhr]; exact if_pos rfl
    have kk3 : ∀ z, 1 ≤ qK h z ∧ qK h z ≤ 10 → 1 ≤ qK hr z ∧ qK hr z ≤ 10 := fun z hz => by
      have := ok z hz
      rw [hhr, qK_gR1, if_neg (fun y => by rw [← y] at hq33; rw [show qK (sF (rawL h a e m) 1000 a (.int (m + 1))) z = qK (rawL h a e m) z from rfl] at hq33; omega)]
      exact this
    have kk4 : qF hr 1000 a = .int (m + 1) := by rw [hhr, qF_sF, if_neg (fun z => by omega), qF_sL, qF_sK, qF_sF, if_pos ⟨rfl, rfl⟩]
    have kk5 : qF hr 1001 a = .ref e1 := by rw [hhr, qF_sF, if_pos ⟨rfl, rfl⟩]
    have kk6 : ∀ b, b ≠ a → b ≠ e1 → qK hr b = qK (sF (rawL h a e m) 1000 a (.int (m + 1))) b := fun b _ h2 => by rw [hhr, qK_gR1, if_neg h2]
    have kk7 : ∀ f b, b ≠ a → qF hr f b = qF (sF (rawL h a e m) 1000 a (.int (m + 1))) f b := fun f b h1 => by rw [hhr, qF_sF, if_neg (fun z => h1 z.2)]; rfl
    have kk8 : ∀ b, b ≠ e1 → qK (sF (rawL h a e m) 1000 a (.int (m + 1))) b ≠ 0 → qL hr b = qL (sF (rawL h a e m) 1000 a (.int (m + 1))) b := fun b h1 _ => by rw [hhr]; exact if_neg h1
    have kk9 : ∀ b, qC hr b = qC (sF (rawL h a e m) 1000 a (.int (m + 1))) b := fun b => by
      rw [hhr]
      show (if b = e1 then qC (sF (rawL h a e m) 1000 a (.int (m + 1))) e1 else qC (sF (rawL h a e m) 1000 a (.int (m + 1))) b) = _
      split
      · next z => rw [z]
      · rfl
    have kk10 : ∀ b, qI hr b = qI (sF (rawL h a e m) 1000 a (.int (m + 1))) b := fun b => by rw [hhr]; rfl
    have y4 : e1 = e ∧ 0 < qC h a ∨ qK (sF (rawL h a e m) 1000 a (.int (m + 1))) e1 = 0 := Or.inr hq33
    have y5 : e1 ≠ a := fun z => hqa z.symm
    refine V.heap hhr.symm ?_
    refine V_astore (pc := 36) X [(4, .ref _), (3, .int _), (0, .ref _), (1, .int _), (2, .ref _)] dJx4a65c_add_7a177_36 (by decide) rfl ?_
    refine V_aload (pc := 38) X 0 dJx4a65c_add_7a177_38 rfl ?_
    refine V_iload_n (pc := 40) X 3 dJx4a65c_add_7a177_40 rfl ?_
    refine V_aload (pc := 41) X 0 dJx4a65c_add_7a177_41 rfl ?_
    refine V_iload_n (pc := 43) X 3 dJx4a65c_add_7a177_43 rfl ?_
    refine V_iconst (pc := 44) (v := 1) X dJx4a65c_add_7a177_44 (by decide) ?_
    refine V_iadd (pc := 45) X dJx4a65c_add_7a177_45 ?_
    refine V_iload_n (pc := 46) X 1 dJx4a65c_add_7a177_46 rfl ?_
    refine V_iload_n (pc := 47) X 3 dJx4a65c_add_7a177_47 rfl ?_
    refine V_isub (pc := 48) X dJx4a65c_add_7a177_48 ?_
    refine V_copy (pc := 49) X ay_Jx4a65c_112 kk1 kk1 (nI_pos (by omega)) (by rw [nI_1]; exact nI_pos (by omega)) (by rw [pk_sub (by omega)]; exact nI_pos (by omega)) (by rw [kk2, enc_len (by omega), pk_sub (by omega), nI_clamp (by omega), nI_clamp (by omega)]; omega) (by rw [kk2, enc_len (by omega), nI_1, pk_sub (by omega), nI_clamp (by omega), nI_clamp (by omega)]; omega) (fun j hj y hy => by
        rw [kk2] at hy
        exact kk3 y (ho y (rdc_enc hy))) ⟨Q.fr (by decide), Q.lo (by decide)⟩ (Nat.le_of_ble_eq_true rfl) dJx4a65c_add_7a177_49 ?_
    rw [kk2, nI_1, pk_sub (by omega), nI_clamp (by omega), nI_clamp (by omega), nI_clamp (by omega)]
    refine V_aload (pc := 52) X 0 dJx4a65c_add_7a177_52 rfl ?_
    refine V_iload_n (pc := 54) X 3 dJx4a65c_add_7a177_54 rfl ?_
    refine V_aload_n (pc := 55) X 4 dJx4a65c_add_7a177_55 rfl ?_
    refine V_aast (pc := 56) X (by rw [qK_sL]; exact kk1) (by rw [qK_sL]; exact kk3 x hx) (by show vp_in _ (if _ = _ then _ else _ : List Nat).length; rw [if_pos rfl, rcp_len, enc_len (by omega)]; exact vp_in_nI (by omega) (by omega)) dJx4a65c_add_7a177_56 ?_
    rw [show qL (sR hr e1 (rcp (enc (qL h a) c1) (enc (qL h a) c1) i (i + 1) ((qL h a).length - i))) e1 = rcp (enc (qL h a) c1) (enc (qL h a) c1) i (i + 1) ((qL h a).length - i) from if_pos rfl, nI_clamp (by omega), enc_ins (by omega) hi, sR_sR]
    refine V_aload_n (pc := 57) X 2 dJx4a65c_add_7a177_57 rfl ?_
    refine V_iload_n (pc := 58) X 1 dJx4a65c_add_7a177_58 rfl ?_
    refine V_iconst (pc := 59) (v := 1) X dJx4a65c_add_7a177_59 (by decide) ?_
    refine V_iadd (pc := 60) X dJx4a65c_add_7a177_60 ?_
    refine V_putL (pc := 61) X fr_Jx4a65c_48 inW10 dJx4a65c_add_7a177_61 (by rw [qK_sL]; exact kk0) ⟨rfl, rfl⟩ ?_
    rw [nI_1, show (qL h a).length + 1 = (lIns (qL h a) i x).length from (ins_len hi).symm]
    refine cl_rawP (hr := sF (rawL h a e m) 1000 a (.int (m + 1))) hk z0 z1 rfl (fun f b hb => by rw [qF_sF, if_neg (fun z => hb z.2)]) rfl (fun _ => rfl) (fun _ => rfl) y4 y5 hgb (rawP_mk (m := m + 1) kk0 kk4 kk5 (by omega) kk1 rfl (by rw [ins_len hi]; omega) kk6 kk7 kk8 kk9 kk10) ?_
    refine V_vret (pc := 64) X Q rfl dJx4a65c_add_7a177_64 ?_
    exact ⟨rfl, by rw [hc1]⟩
theorem c_fastRm {E : EV} {h : AH} {a e c i : Nat} {m : Int32} {xs : List Nat} (hk : qK h a = 18) (hm : qF h 1000 a = .int m) (he : qF h 1001 a = .ref e) (hs : qF h 1002 a = .int (nI xs.length)) (hke : qK h e = 19 ∧ qL h e = enc xs c) (hn : xs.length ≤ c) (hc : c < 40000) (hi : i < xs.length) (ho : ∀ y ∈ xs, 1 ≤ qK h y ∧ qK h y ≤ 10) : Ct E yJx4a65c_fastRemove_b59b0 cJx4a65c_fastRemove_b59b0 4 none 3 0 [.ref a, .ref e, .int (nI i)] h (fun v h1 => v = none ∧ rawP E h h1 a e c (lDel xs i)) noX := by
  refine Ct_of RJx4a65c (by decide +kernel) rfl (Nat.le_of_ble_eq_true rfl) (fun Γ X nt Q hin => ?_)
  refine V_aload_n (pc := 0) X 0 dJx4a65c_fastRemove_b59b0_0 rfl ?_
  refine V_dup (pc := 1) X dJx4a65c_fastRemove_b59b0_1 rfl ?_
  refine V_getL (pc := 2) X fr_Jx4a65c_63 inW10 dJx4a65c_fastRemove_b59b0_2 hk hm ?_
  refine V_iconst (pc := 5) (v := 1) X dJx4a65c_fastRemove_b59b0_5 (by decide) ?_
  refine V_iadd (pc := 6) X dJx4a65c_fastRemove_b59b0_6 ?_
  refine V_putL (pc := 7) X fr_Jx4a65c_63 inW10 dJx4a65c_fastRemove_b59b0_7 hk ⟨rfl, rfl⟩ ?_
  refine V_aload_n (pc := 10) X 0 dJx4a65c_fastRemove_b59b0_10 rfl ?_
  refine V_getL (pc := 11) X fr_Jx4a65c_48 inW10 dJx4a65c_fastRemove_b59b0_11 hk (v := .int (nI xs.length)) (by rw [qF_sF, if_neg (fun z => by omega)]; exact hs) ?_
  refine V_iconst (pc := 14) (v := 1) X dJx4a65c_fastRemove_b59b0_14 (by decide) ?_
  refine V_isub (pc := 15) X dJx4a65c_fastRemove_b59b0_15 ?_
  rw [show nI xs.length - 1 = nI (xs.length - 1) from pk_sub (a := xs.length) (b := 1) (by omega)]
  refine V_dup (pc := 16) X dJx4a65c_fastRemove_b59b0_16 rfl ?_
  refine V_istore_n (pc := 17) X [(3, .int _), (0, .ref _), (1, .ref _), (2, .int _)] dJx4a65c_fastRemove_b59b0_17 rfl (by decide) rfl ?_
  refine V_iload_n (pc := 18) X 3 dJx4a65c_fastRemove_b59b0_18 rfl ?_
  refine V_icmp_le (pc := 19) X 34 dJx4a65c_fastRemove_b59b0_19 (by decide) (fun c19 => ?_) (fun c19 => ?_)
  · have hge : ¬ i < xs.length - 1 := fun z => absurd c19 (nI_ge z (by omega))
    obtain ⟨hr, hhr⟩ : ∃ hr, hr = sF h 1000 a (.int (m + 1)) := ⟨_, rfl⟩
    refine V.heap hhr.symm ?_
    have r1 : qK hr a = 18 := by rw [hhr]; exact hk
    have r2 : qK hr e = 19 := by rw [hhr]; exact hke.1
    have r3 : qL hr e = enc xs c := by rw [hhr]; exact hke.2
    have r4 : (enc xs c) = if i < xs.length - 1 then rcp (enc xs c) (enc xs c) (i + 1) i (xs.length - 1 - i) else enc xs c := by rw [if_neg hge]
    have r5 : ∀ w, sR (sF hr 1002 a w) e ((enc xs c).set (xs.length - 1) 0) = sF (sR (sF h 1000 a (.int (m + 1))) e ((enc xs c).set (xs.length - 1) 0)) 1002 a w := fun w => by rw [hhr]; rfl
    refine V_aload_n (pc := 34) X 2 dJx4a65c_fastRemove_b59b0_34 rfl ?_
    refine V_aload_n (pc := 35) X 1 dJx4a65c_fastRemove_b59b0_35 rfl ?_
    refine V_iload_n (pc := 36) X 0 dJx4a65c_fastRemove_b59b0_36 rfl ?_
    refine V_dup_x1 (pc := 37) X dJx4a65c_fastRemove_b59b0_37 rfl rfl ?_
    refine V_putL (pc := 38) X fr_Jx4a65c_48 inW10 dJx4a65c_fastRemove_b59b0_38 r1 ⟨rfl, rfl⟩ ?_
    refine V_null (pc := 41) X dJx4a65c_fastRemove_b59b0_41 ?_
    refine V_aastN (pc := 42) X r2 (by show vp_in _ (qL hr e).length; rw [r3]; first | (rw [enc_len hn]; exact vp_in_nI (by omega) (by omega)) | (rw [rcp_len, enc_len hn]; exact vp_in_nI (by omega) (by omega))) dJx4a65c_fastRemove_b59b0_42 ?_
    rw [show ∀ w, qL (sF hr 1002 a w) e = qL hr e from fun _ => rfl, r3, nI_clamp (by omega), r5]
    refine V_vret (pc := 43) X Q rfl dJx4a65c_fastRemove_b59b0_43 ?_
    refine ⟨rfl, ?_⟩
    rw [show xs.length - 1 = (lDel xs i).length from (del_len hi).symm]
    refine rawP_mk (m := m + 1) hk (by rw [qF_sF, if_pos ⟨rfl, rfl⟩]) (by rw [qF_sF, if_neg (fun z => by omega)]; exact he) (by omega) hke.1 (by rw [del_len hi]; exact enc_del hn hi _ r4) (by rw [del_len hi]; omega) (fun b _ _ => rfl) (fun f b hb => by rw [qF_sF, if_neg (fun z => hb z.2)]) (fun b hb _ => rfl) (fun b => rfl) (fun b => rfl)
  · have hlt : i < xs.length - 1 := by
      rcases Nat.lt_or_ge i (xs.length - 1) with z | z
      · exact z
      · exact absurd (nI_le z (by omega)) c19
    refine V_aload_n (pc := 22) X 2 dJx4a65c_fastRemove_b59b0_22 rfl ?_
    refine V_iload_n (pc := 23) X 3 dJx4a65c_fastRemove_b59b0_23 rfl ?_
    refine V_iconst (pc := 24) (v := 1) X dJx4a65c_fastRemove_b59b0_24 (by decide) ?_
    refine V_iadd (pc := 25) X dJx4a65c_fastRemove_b59b0_25 ?_
    refine V_aload_n (pc := 26) X 2 dJx4a65c_fastRemove_b59b0_26 rfl ?_
    refine V_iload_n (pc := 27) X 3 dJx4a65c_fastRemove_b59b0_27 rfl ?_
    refine V_iload_n (pc := 28) X 0 dJx4a65c_fastRemove_b59b0_28 rfl ?_
    refine V_iload_n (pc := 29) X 3 dJx4a65c_fastRemove_b59b0_29 rfl ?_
    refine V_isub (pc := 30) X dJx4a65c_fastRemove_b59b0_30 ?_
    refine V_copy (pc := 31) (h := sF h 1000 a (.int (m + 1))) X ay_Jx4a65c_112 hke.1 hke.1 (by rw [nI_1]; exact nI_pos (by omega)) (nI_pos (by omega)) (by rw [pk_sub (by omega)]; exact nI_pos (by omega)) (by rw [show qL (sF h 1000 a (.int (m + 1))) e = enc xs c from hke.2, enc_len hn, nI_1, pk_sub (by omega), nI_clamp (by omega), nI_clamp (by omega)]; omega) (by rw [show qL (sF h 1000 a (.int (m + 1))) e = enc xs c from hke.2, enc_len hn, pk_sub (by omega), nI_clamp (by omega), nI_clamp (by omega)]; omega) (fun j hj y hy => by
        rw [show qL (sF h 1000 a (.int (m + 1))) e = enc xs c from hke.2] at hy
        exact ho y (rdc_enc hy)) ⟨Q.fr (by decide), Q.lo (by decide)⟩ (Nat.le_of_ble_eq_true rfl) dJx4a65c_fastRemove_b59b0_31 ?_
    rw [show qL (sF h 1000 a (.int (m + 1))) e = enc xs c from hke.2, nI_1, pk_sub (by omega), nI_clamp (by omega), nI_clamp (by omega), nI_clamp (by omega)]
    obtain ⟨hr, hhr⟩ : ∃ hr, hr = sR (sF h 1000 a (.int (m + 1))) e (rcp (enc xs c) (enc xs c) (i + 1) i (xs.length - 1 - i)) := ⟨_, rfl⟩
    refine V.heap hhr.symm ?_
    have r1 : qK hr a = 18 := by rw [hhr]; exact hk
    have r2 : qK hr e = 19 := by rw [hhr]; exact hke.1
    have r3 : qL hr e = rcp (enc xs c) (enc xs c) (i + 1) i (xs.length - 1 - i) := by rw [hhr]; exact if_pos rfl
    have r4 : rcp (enc xs c) (enc xs c) (i + 1) i (xs.length - 1 - i) = if i < xs.length - 1 then rcp (enc xs c) (enc xs c) (i + 1) i (xs.length - 1 - i) else enc xs c := by rw [if_pos hlt]
    have r5 : ∀ w, sR (sF hr 1002 a w) e ((rcp (enc xs c) (enc xs c) (i + 1) i (xs.length - 1 - i)).set (xs.length - 1) 0) = sF (sR (sF h 1000 a (.int (m + 1))) e ((rcp (enc xs c) (enc xs c) (i + 1) i (xs.length - 1 - i)).set (xs.length - 1) 0)) 1002 a w := fun w => by rw [hhr, sF_sR, sR_sR]
    refine V_aload_n (pc := 34) X 2 dJx4a65c_fastRemove_b59b0_34 rfl ?_
    refine V_aload_n (pc := 35) X 1 dJx4a65c_fastRemove_b59b0_35 rfl ?_
    refine V_iload_n (pc := 36) X 0 dJx4a65c_fastRemove_b59b0_36 rfl ?_
    refine V_dup_x1 (pc := 37) X dJx4a65c_fastRemove_b59b0_37 rfl rfl ?_
    refine V_putL (pc := 38) X fr_Jx4a65c_48 inW10 dJx4a65c_fastRemove_b59b0_38 r1 ⟨rfl, rfl⟩ ?_
    refine V_null (pc := 41) X dJx4a65c_fastRemove_b59b0_41 ?_
    refine V_aastN (pc := 42) X r2 (by show vp_in _ (qL hr e).length; rw [r3]; first | (rw [enc_len hn]; exact vp_in_nI (by omega) (by omega)) | (rw [rcp_len, enc_len hn]; exact vp_in_nI (by omega) (by omega))) dJx4a65c_fastRemove_b59b0_42 ?_
    rw [show ∀ w, qL (sF hr 1002 a w) e = qL hr e from fun _ => rfl, r3, nI_clamp (by omega), r5]
    refine V_vret (pc := 43) X Q rfl dJx4a65c_fastRemove_b59b0_43 ?_
    refine ⟨rfl, ?_⟩
    rw [show xs.length - 1 = (lDel xs i).length from (del_len hi).symm]
    refine rawP_mk (m := m + 1) hk (by rw [qF_sF, if_pos ⟨rfl, rfl⟩]) (by rw [qF_sF, if_neg (fun z => by omega)]; exact he) (by omega) hke.1 (by rw [del_len hi]; exact enc_del hn hi _ r4) (by rw [del_len hi]; omega) (fun b _ _ => rfl) (fun f b hb => by rw [qF_sF, if_neg (fun z => hb z.2)]) (fun b hb _ => rfl) (fun b => rfl) (fun b => rfl)
theorem c_remove {E : EV} {h : AH} {a i x : Nat} (hk : qK h a = 11) (hi : (qL h a)[i]? = some x) (ho : ∀ y ∈ qL h a, 1 ≤ qK h y ∧ qK h y ≤ 10) : Ct E yJx4a65c_remove_915e3 cJx4a65c_remove_915e3 4 (some (.object "java/lang/Object")) 5 0 [.ref a, .int (nI i)] h (fun v h1 => v = some (.ref x) ∧ h1 = sL h a (lDel (qL h a) i) (qC h a)) noX := by
  refine Ct_of RJx4a65c (by decide +kernel) rfl (Nat.le_of_ble_eq_true rfl) (fun Γ X nt Q hin => ?_)
  have hil : i < (qL h a).length := (List.getElem?_eq_some_iff.mp hi).1
  refine V_open X hk (fun e m z0 z1 => ?_)
  have ok : ∀ z, 1 ≤ qK h z ∧ qK h z ≤ 10 → 1 ≤ qK (rawL h a e m) z ∧ qK (rawL h a e m) z ≤ 10 := fun z hz => by
    rw [show qK (rawL h a e m) z = (if z = a then 18 else if z = e ∧ 0 < qC h a then 19 else qK h z) from rfl, if_neg (fun y => by rw [y, hk] at hz; omega), if_neg (fun y => by rw [y.1, (z1 y.2).1] at hz; omega)]
    exact hz
  have ra : qK (rawL h a e m) a = 18 := by simp [qK, rawL]
  have rm : qF (rawL h a e m) 1000 a = .int m := by simp [qF, rawL]
  have re : qF (rawL h a e m) 1001 a = .ref e := by simp [qF, rawL]
  have rs : qF (rawL h a e m) 1002 a = .int (nI (qL h a).length) := by simp [qF, rawL]
  have rk : 0 < qC h a → qK (rawL h a e m) e = 19 ∧ qL (rawL h a e m) e = enc (qL h a) (qC h a) := fun z => ⟨by simp [qK, rawL, (z1 z).2.1, z], raw_row z⟩
  have rl : (qL h a).length ≤ qC h a := by
    rcases Nat.eq_zero_or_pos (qC h a) with z | z
    · rw [(z0 z).2]; exact Nat.zero_le _
    · exact (z1 z).2.2.1
  have h10 : qC h a = 0 ∨ 10 ≤ qC h a := by
    rcases Nat.eq_zero_or_pos (qC h a) with z | z
    · exact Or.inl z
    · exact Or.inr (z1 z).2.2.2.1
  have hc0 : 0 < qC h a := by omega
  obtain ⟨z2, z3, z4, z5⟩ := z1 hc0
  refine V_iload_n (pc := 0) X 1 dJx4a65c_remove_915e3_0 rfl ?_
  refine V_aload_n (pc := 1) X 0 dJx4a65c_remove_915e3_1 rfl ?_
  refine V_getL (pc := 2) X fr_Jx4a65c_48 inW10 dJx4a65c_remove_915e3_2 ra rs ?_
  refine V_callS (pc := 5) X _ (c_chk (nI_pos (by omega)) (nI_lt hil (by omega))) cw_Jx4a65c_118 (Q.room (by decide) (by decide)) rfl (Nat.le_of_ble_eq_true rfl) rfl (by omega) dJx4a65c_remove_915e3_5 (fun _ _ z => z.elim) ?_
  rintro v5 h5 ⟨rfl, rfl⟩
  simp only [Option.toList_some, List.cons_append, List.nil_append]
  refine V_pop (pc := 8) X dJx4a65c_remove_915e3_8 rfl ?_
  refine V_aload_n (pc := 9) X 0 dJx4a65c_remove_915e3_9 rfl ?_
  refine V_getL (pc := 10) X fr_Jx4a65c_9 inW10 dJx4a65c_remove_915e3_10 ra re ?_
  refine V_astore_n (pc := 13) X [(2, .ref _), (0, .ref _), (1, .int _)] dJx4a65c_remove_915e3_13 rfl (by decide) rfl ?_
  refine V_aload_n (pc := 14) X 0 dJx4a65c_remove_915e3_14 rfl ?_
  refine V_iload_n (pc := 15) X 2 dJx4a65c_remove_915e3_15 rfl ?_
  refine V_aald (pc := 16) X (rk hc0).1 (by rw [(rk hc0).2, enc_len z4]; exact vp_in_nI (by omega) (by omega)) (x := x) (by rw [(rk hc0).2, enc_get, nI_clamp (by omega)]; exact hi) dJx4a65c_remove_915e3_16 ?_
  refine V_astore_n (pc := 17) X [(3, .ref _), (2, .ref _), (0, .ref _), (1, .int _)] dJx4a65c_remove_915e3_17 rfl (by decide) rfl ?_
  refine V_aload_n (pc := 18) X 2 dJx4a65c_remove_915e3_18 rfl ?_
  refine V_aload_n (pc := 19) X 1 dJx4a65c_remove_915e3_19 rfl ?_
  refine V_iload_n (pc := 20) X 3 dJx4a65c_remove_915e3_20 rfl ?_
  refine V_callL (pc := 21) X (Or.inr ra) _ (c_fastRm (c := qC h a) ra rm re rs (rk hc0) z4 z5.2 hil (fun y hy => ok y (ho y hy))) cw_Jx4a65c_144 (Q.room (by decide) (by decide)) rfl (Nat.le_of_ble_eq_true rfl) rfl (by omega) dJx4a65c_remove_915e3_21 (fun _ _ z => z.elim) ?_
  rintro v21 h21 ⟨rfl, y3⟩
  simp only [Option.toList_none, List.nil_append]
  refine cl_rawP (hr := rawL h a e m) hk z0 z1 rfl (fun _ _ _ => rfl) rfl (fun _ => rfl) (fun _ => rfl) (Or.inl ⟨rfl, hc0⟩) z3 z5 y3 ?_
  refine V_aload_n (pc := 24) X 0 dJx4a65c_remove_915e3_24 rfl ?_
  refine V_aret (pc := 25) X Q rfl dJx4a65c_remove_915e3_25 ?_
  exact ⟨rfl, rfl⟩
