theorem raw_row {h : AH} {a e : Nat} {m : Int32} (hc : 0 < qC h a) : qL (rawL h a e m) e = enc (qL h a) (qC h a) := by simp [qL, rawL, hc]
/-- an open list that nothing has touched, closed again -/
theorem cl_raw {E : EV} {Γ : VG} {b : Nat} {h : AH} {pc : Nat} {lv : List (Nat × Value)} {st : List Value} {a e : Nat} {m : Int32} (hk : qK h a = 11) (z0 : qC h a = 0 → e = eZ E ∧ qL h a = []) (z1 : 0 < qC h a → qK h e = 0 ∧ e ≠ a ∧ (qL h a).length ≤ qC h a ∧ (10 ≤ qC h a ∧ qC h a < 40000)) (k : V E Γ b h pc lv st) : V E Γ b (rawL h a e m) pc lv st := by
  refine V_close (h1 := (h.1, h.2.1, (fun b => if b = a then qL h a else qL (rawL h a e m) b), h.2.2.2.1, h.2.2.2.2)) (a := a) (e := e) (c := qC h a) (m := m) (xs := qL h a) (by simp [qK, rawL]) (by simp [qF, rawL]) (by simp [qF, rawL]) (by simp [qF, rawL]) ?_ (fun b => ?_) (fun f b hb => ?_) (fun b => rfl) (fun b => ?_) rfl ?_
  · rcases Nat.eq_zero_or_pos (qC h a) with z | z
    · exact Or.inl ⟨z, (z0 z).1, (z0 z).2⟩
    · obtain ⟨y1, y2, y3, y4⟩ := z1 z
      exact Or.inr ⟨z, y4, y3, by simp [qK, rawL, y2, z], raw_row z⟩
  · show h.1 b = _
    by_cases e1 : b = a
    · rw [if_pos e1, e1]; exact hk
    · rw [if_neg e1]
      by_cases e2 : b = e ∧ 0 < qC h a
      · rw [if_pos e2, e2.1]; exact (z1 e2.2).1
      · rw [if_neg e2]
        show _ = (if b = a then 18 else if b = e ∧ 0 < qC h a then 19 else h.1 b)
        rw [if_neg e1, if_neg e2]
  · show h.2.1 f b = _
    simp [qF, rawL, hb]
  · show h.2.2.2.1 b = _
    split
    · next z => rw [z]; rfl
    · rfl
  · refine V_congr (h1 := h) rfl (fun _ _ _ => rfl) (fun b hb => ⟨?_, rfl⟩) (fun b hb => ?_) (fun _ _ => rfl) k
    · show h.2.2.1 b = if b = a then qL h a else (if b = e ∧ 0 < qC h a then _ else h.2.2.1 b)
      by_cases e1 : b = a
      · rw [if_pos e1, e1]; rfl
      · rw [if_neg e1, if_neg (fun e2 => by have hb' : qK h b = 11 := hb; rw [e2.1, (z1 e2.2).1] at hb'; omega)]
    · show h.2.2.1 b = if b = a then qL h a else (if b = e ∧ 0 < qC h a then _ else h.2.2.1 b)
      by_cases e1 : b = a
      · rw [if_pos e1, e1]; rfl
      · rw [if_neg e1, if_neg (fun e2 => by have hb' : qK h b = 19 := hb; rw [e2.1, (z1 e2.2).1] at hb'; omega)]
theorem c_pchk {E : EV} {h : AH} {i n : Int32} (h0 : ¬ i < 0) (h1 : i < n) : Ct E yJ3_checkIndex_8e157 cJ3_checkIndex_8e157 3 (some .int) 1 0 [.int i, .int n, .null] h (fun v h1 => v = some (.int i) ∧ h1 = h) noX := by
  refine Ct_of RJ3 (by decide +kernel) rfl (Nat.le_of_ble_eq_true rfl) (fun Γ X nt Q hin => ?_)
  refine V_iload_n (pc := 0) X 0 dJ3_checkIndex_8e157_0 rfl ?_
  refine V_if_lt (pc := 1) X 9 dJ3_checkIndex_8e157_1 (by decide) (fun c1 => ?_) (fun c1 => ?_)
  · exact absurd c1 h0
  · refine V_iload_n (pc := 4) X 0 dJ3_checkIndex_8e157_4 rfl ?_
    refine V_iload_n (pc := 5) X 1 dJ3_checkIndex_8e157_5 rfl ?_
    refine V_icmp_lt (pc := 6) X 16 dJ3_checkIndex_8e157_6 (by decide) (fun c6 => ?_) (fun c6 => ?_)
    · refine V_iload_n (pc := 16) X 0 dJ3_checkIndex_8e157_16 rfl ?_
      refine V_iret (pc := 17) X Q rfl rfl dJ3_checkIndex_8e157_17 ?_
      exact ⟨rfl, rfl⟩
    · exact absurd h1 c6
theorem c_chk {E : EV} {h : AH} {i n : Int32} (h0 : ¬ i < 0) (h1 : i < n) : Ct E yJ15_checkIndex_7cf53 cJ15_checkIndex_7cf53 2 (some .int) 2 0 [.int i, .int n] h (fun v h1 => v = some (.int i) ∧ h1 = h) noX := by
  refine Ct_of RJ15 (by decide +kernel) rfl (Nat.le_of_ble_eq_true rfl) (fun Γ X nt Q hin => ?_)
  refine V_iload_n (pc := 0) X 0 dJ15_checkIndex_7cf53_0 rfl ?_
  refine V_iload_n (pc := 1) X 1 dJ15_checkIndex_7cf53_1 rfl ?_
  refine V_null (pc := 2) X dJ15_checkIndex_7cf53_2 ?_
  refine V_callS (pc := 3) X _ (c_pchk h0 h1) cw_J15_105 (Q.room (by decide) (by decide)) rfl (Nat.le_of_ble_eq_true rfl) rfl (by omega) dJ15_checkIndex_7cf53_3 (fun _ _ z => z.elim) ?_
  rintro v3 h3 ⟨rfl, rfl⟩
  simp only [Option.toList_some, List.cons_append, List.nil_append]
  refine V_iret (pc := 6) X Q rfl rfl dJ15_checkIndex_7cf53_6 ?_
  exact ⟨rfl, rfl⟩
theorem c_size {E : EV} {h : AH} {a : Nat} (hk : qK h a = 11) : Ct E yJx4a65c_size_8abf5 cJx4a65c_size_8abf5 1 (some .int) 1 0 [.ref a] h (fun v h1 => v = some (.int (nI (qL h a).length)) ∧ h1 = h) noX := by
  refine Ct_of RJx4a65c (by decide +kernel) rfl (Nat.le_of_ble_eq_true rfl) (fun Γ X nt Q hin => ?_)
  refine V_open X hk (fun e m z0 z1 => ?_)
  refine V_aload_n (pc := 0) X 0 dJx4a65c_size_8abf5_0 rfl ?_
  refine V_getL (pc := 1) X fr_Jx4a65c_48 inW10 dJx4a65c_size_8abf5_1 (by simp [qK, rawL]) (v := .int (nI (qL h a).length)) (by simp [qF, rawL]) ?_
  refine cl_raw hk z0 z1 ?_
  refine V_iret (pc := 4) X Q rfl rfl dJx4a65c_size_8abf5_4 ?_
  exact ⟨rfl, rfl⟩
theorem c_isEmpty {E : EV} {h : AH} {a : Nat} (hk : qK h a = 11) (hl : (qL h a).length < 2 ^ 31) : Ct E yJx4a65c_isEmpty_aae02 cJx4a65c_isEmpty_aae02 1 (some .boolean) 1 0 [.ref a] h (fun v h1 => v = some (.int (if qL h a = [] then 1 else 0)) ∧ h1 = h) noX := by
  refine Ct_of RJx4a65c (by decide +kernel) rfl (Nat.le_of_ble_eq_true rfl) (fun Γ X nt Q hin => ?_)
  refine V_open X hk (fun e m z0 z1 => ?_)
  refine V_aload_n (pc := 0) X 0 dJx4a65c_isEmpty_aae02_0 rfl ?_
  refine V_getL (pc := 1) X fr_Jx4a65c_48 inW10 dJx4a65c_isEmpty_aae02_1 (by simp [qK, rawL]) (v := .int (nI (qL h a).length)) (by simp [qF, rawL]) ?_
  refine cl_raw hk z0 z1 ?_
  refine V_if_ne (pc := 4) X 11 dJx4a65c_isEmpty_aae02_4 (by decide) (fun c4 => ?_) (fun c4 => ?_)
  · refine V_iconst (pc := 11) (v := 0) X dJx4a65c_isEmpty_aae02_11 (by decide) ?_
    refine V_iret (pc := 12) X Q rfl rfl dJx4a65c_isEmpty_aae02_12 ?_
    refine ⟨?_, rfl⟩
    by_cases e0 : qL h a = []
    · first | (rw [if_pos e0]; done) | exact absurd (by rw [e0]; rfl) c4
    · first | (rw [if_neg e0]; done) | exact absurd c4 (nI_ne0 (List.length_pos_iff.mpr e0) hl)
  · refine V_iconst (pc := 7) (v := 1) X dJx4a65c_isEmpty_aae02_7 (by decide) ?_
    refine V_goto (pc := 8) X 12 dJx4a65c_isEmpty_aae02_8 (by decide) ?_
    refine V_iret (pc := 12) X Q rfl rfl dJx4a65c_isEmpty_aae02_12 ?_
    refine ⟨?_, rfl⟩
    by_cases e0 : qL h a = []
    · first | (rw [if_pos e0]; done) | exact absurd (by rw [e0]; rfl) c4
    · first | (rw [if_neg e0]; done) | exact absurd c4 (nI_ne0 (List.length_pos_iff.mpr e0) hl)
theorem c_elData {E : EV} {h : AH} {a e x : Nat} {i : Int32} (hk : qK h a = 18) (he : qF h 1001 a = .ref e) (hke : qK h e = 19) (hi : vp_in i (qL h e).length) (hx : rdc ((qL h e).getD i.toNatClampNeg 0) = some x) : Ct E yJx4a65c_elementData_915e3 cJx4a65c_elementData_915e3 2 (some (.object "java/lang/Object")) 1 0 [.ref a, .int i] h (fun v h1 => v = some (.ref x) ∧ h1 = h) noX := by
  refine Ct_of RJx4a65c (by decide +kernel) rfl (Nat.le_of_ble_eq_true rfl) (fun Γ X nt Q hin => ?_)
  refine V_aload_n (pc := 0) X 0 dJx4a65c_elementData_915e3_0 rfl ?_
  refine V_getL (pc := 1) X fr_Jx4a65c_9 inW10 dJx4a65c_elementData_915e3_1 hk he ?_
  refine V_iload_n (pc := 4) X 1 dJx4a65c_elementData_915e3_4 rfl ?_
  refine V_aald (pc := 5) X hke hi hx dJx4a65c_elementData_915e3_5 ?_
  refine V_aret (pc := 6) X Q rfl dJx4a65c_elementData_915e3_6 ?_
  exact ⟨rfl, rfl⟩
theorem c_get {E : EV} {h : AH} {a i x : Nat} (hk : qK h a = 11) (hx : (qL h a)[i]? = some x) (hl : (qL h a).length < 2 ^ 31) : Ct E yJx4a65c_get_915e3 cJx4a65c_get_915e3 2 (some (.object "java/lang/Object")) 3 0 [.ref a, .int (nI i)] h (fun v h1 => v = some (.ref x) ∧ h1 = h) noX := by
  refine Ct_of RJx4a65c (by decide +kernel) rfl (Nat.le_of_ble_eq_true rfl) (fun Γ X nt Q hin => ?_)
  have hi : i < (qL h a).length := (List.getElem?_eq_some_iff.mp hx).1
  refine V_open X hk (fun e m z0 z1 => ?_)
  have hc : 0 < qC h a := by
    rcases Nat.eq_zero_or_pos (qC h a) with z | z
    · rw [(z0 z).2] at hi; exact absurd hi (Nat.not_lt_zero _)
    · exact z
  obtain ⟨z2, z3, z4, z5⟩ := z1 hc
  refine V_iload_n (pc := 0) X 1 dJx4a65c_get_915e3_0 rfl ?_
  refine V_aload_n (pc := 1) X 0 dJx4a65c_get_915e3_1 rfl ?_
  refine V_getL (pc := 2) X fr_Jx4a65c_48 inW10 dJx4a65c_get_915e3_2 (by simp [qK, rawL]) (v := .int (nI (qL h a).length)) (by simp [qF, rawL]) ?_
  refine V_callS (pc := 5) X _ (c_chk (nI_pos (by omega)) (nI_lt hi hl)) cw_Jx4a65c_118 (Q.room (by decide) (by decide)) rfl (Nat.le_of_ble_eq_true rfl) rfl (by omega) dJx4a65c_get_915e3_5 (fun _ _ z => z.elim) ?_
  rintro v5 h5 ⟨rfl, rfl⟩
  simp only [Option.toList_some, List.cons_append, List.nil_append]
  refine V_pop (pc := 8) X dJx4a65c_get_915e3_8 rfl ?_
  refine V_aload_n (pc := 9) X 0 dJx4a65c_get_915e3_9 rfl ?_
  refine V_iload_n (pc := 10) X 1 dJx4a65c_get_915e3_10 rfl ?_
  refine V_callL (pc := 11) X (Or.inr (by simp [qK, rawL])) _ (c_elData (e := e) (x := x) (by simp [qK, rawL]) (by simp [qF, rawL]) (by simp [qK, rawL, z3, hc]) (by rw [raw_row hc, enc_len z4]; exact vp_in_nI (by omega) (by omega)) (by rw [raw_row hc, enc_get, nI_clamp (by omega)]; exact hx)) cw_Jx4a65c_123 (Q.room (by decide) (by decide)) rfl (Nat.le_of_ble_eq_true rfl) rfl (by omega) dJx4a65c_get_915e3_11 (fun _ _ z => z.elim) ?_
  rintro v11 h11 ⟨rfl, rfl⟩
  simp only [Option.toList_some, List.cons_append, List.nil_append]
  refine cl_raw hk z0 z1 ?_
  refine V_aret (pc := 14) X Q rfl dJx4a65c_get_915e3_14 ?_
  exact ⟨rfl, rfl⟩
