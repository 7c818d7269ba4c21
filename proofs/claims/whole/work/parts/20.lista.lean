/-- a raw list behind a write: its size n, its row r at e, room c; q: whether the row is new -/
def rawP (E : EV) (h h1 : AH) (a e c : Nat) (xs : List Nat) : Prop :=
  qK h1 a = 18 ∧ (∃ m, qF h1 1000 a = .int m) ∧ qF h1 1001 a = .ref e ∧ qF h1 1002 a = .int (nI xs.length) ∧ 0 < c ∧ qK h1 e = 19 ∧ qL h1 e = enc xs c ∧ xs.length ≤ c ∧ (∀ b, b ≠ a → b ≠ e → qK h1 b = qK h b) ∧ (∀ f b, b ≠ a → qF h1 f b = qF h f b) ∧ (∀ b, b ≠ e → qK h b ≠ 0 → qL h1 b = qL h b) ∧ (∀ b, qC h1 b = qC h b) ∧ (∀ b, qI h1 b = qI h b)
theorem a3_len {E : EV} {Γ : VG} {own : String} {cc : ByteArray} {nL b : Nat} {h : AH} {pc : Nat} {lv : List (Nat × Value)} {st : List Value} (X : CX E Γ own cc nL) {e c : Nat} {xs : List Nat} (hz : c = 0 → e = eZ E) (hke : 0 < c → qK h e = 19 ∧ qL h e = enc xs c) (hn : xs.length ≤ c) (d : decode cc pc = .ok (.arraylength, 1)) (k : V E Γ b h (pc + 1) lv (.int (nI c) :: st)) : V E Γ b h pc lv (.ref e :: st) := by
  rcases Nat.eq_zero_or_pos c with z | z
  · rw [hz z]
    subst z
    exact V_alenZ X d k
  · obtain ⟨k1, k2⟩ := hke z
    refine V_alen X k1 d ?_
    rw [k2, enc_len hn]
    exact k
/-- a raw list that was written, closed -/
theorem cl_rawP {E : EV} {Γ : VG} {b : Nat} {h h1 : AH} {pc : Nat} {lv : List (Nat × Value)} {st : List Value} {a e e1 c : Nat} {m : Int32} {xs : List Nat} (hk : qK h a = 11) (z0 : qC h a = 0 → e = eZ E ∧ qL h a = []) (z1 : 0 < qC h a → qK h e = 0 ∧ e ≠ a ∧ (qL h a).length ≤ qC h a ∧ (10 ≤ qC h a ∧ qC h a < 40000)) {hr : AH} (e3 : qK hr = qK (rawL h a e m)) (e4 : ∀ f b, b ≠ a → qF hr f b = qF (rawL h a e m) f b) (e5 : qL hr = qL (rawL h a e m)) (e6 : ∀ b, qC hr b = qC h b) (e7 : ∀ b, qI hr b = qI h b)
    (he : e1 = e ∧ 0 < qC h a ∨ qK hr e1 = 0) (hea : e1 ≠ a) (hc : 10 ≤ c ∧ c < 40000) (P : rawP E hr h1 a e1 c xs) (k : V E Γ b (sL h a xs c) pc lv st) : V E Γ b h1 pc lv st := by
  obtain ⟨p1, ⟨m1, p2⟩, p3, p4, p5, p6, p7, p8, p9, p10, p11, p12, p13⟩ := P
  have rb : ∀ b, b ≠ a → ¬ (b = e ∧ 0 < qC h a) → qK (rawL h a e m) b = qK h b := fun b h1 h2 => by
    show (if b = a then 18 else if b = e ∧ 0 < qC h a then 19 else h.1 b) = h.1 b
    rw [if_neg h1, if_neg h2]
  have hke1 : qK h e1 = 0 := by
    rcases he with ⟨z, w⟩ | z
    · rw [z]; exact (z1 w).1
    · by_cases y : e1 = e
      · rw [y] at z hea ⊢
        rw [e3] at z
        by_cases w : 0 < qC h a
        · exact (z1 w).1
        · rw [rb e hea (fun q => w q.2)] at z; exact z
      · rw [e3] at z
        by_cases w : e1 = e ∧ 0 < qC h a
        · exact absurd w.1 y
        · rw [rb e1 hea w] at z; exact z
  have fin : ∀ h2 : AH, (∀ b, b ≠ a → b ≠ e1 → qK h2 b = qK h b) → qK h2 a = 18 → qK h2 e1 = 19 → qF h2 = qF h1 → qL h2 = qL h1 → qC h2 = qC h1 → qI h2 = qI h1 → V E Γ b h2 pc lv st := by
    intro h2 w1 w2 w3 w4 w5 w6 w7
    refine cl_to (m := m1) hk w2 (by rw [w4]; exact p2) (by rw [w4]; exact p3) (by rw [w4]; exact p4) (Or.inr ⟨p5, hc, p8, w3, by rw [w5]; exact p7⟩) (fun _ => hke1) (fun b x1 x2 => w1 b x1 (fun z => x2 ⟨z, p5⟩)) (fun f b x1 => ?_) (fun b x1 x2 => ?_) (fun b x1 x2 => ?_) (fun b x1 => ?_) k
    · rw [w4, p10 f b x1, e4 f b x1]
      simp [qF, rawL, x1]
    · have ne1 : b ≠ e1 := fun z => x2 (by rw [z]; exact hke1)
      by_cases y : b = e ∧ 0 < qC h a
      · exact absurd (by rw [y.1]; exact (z1 y.2).1) x2
      · have hkb : qK hr b ≠ 0 := by
          by_cases y2 : b = e
          · rw [y2] at x1 ⊢
            rw [e3, rb e x1 (fun q => y ⟨y2, q.2⟩), ← y2]; exact x2
          · rw [e3, rb b x1 y]; exact x2
        rw [w5, p11 b ne1 hkb]
        rw [e5]
        show (if b = e ∧ 0 < qC h a then _ else h.2.2.1 b) = _
        rw [if_neg y]; rfl
    · rw [w6, p12, e6]
    · rw [w7, p13, e7]
  by_cases y : e1 = e ∨ ¬ 0 < qC h a ∨ e = a
  · refine fin h1 (fun b x1 x2 => ?_) p1 p6 rfl rfl rfl rfl
    rw [p9 b x1 x2]
    by_cases w : b = e
    · rcases y with y | y | y
      · exact absurd (w.trans y.symm) x2
      · rw [w] at x1 ⊢; rw [e3, rb e x1 (fun q => y q.2)]
      · exact absurd (w.trans y) x1
    · rw [e3, rb b x1 (fun q => w q.1)]
  · have y1 : e1 ≠ e := fun z => y (Or.inl z)
    have y2 : 0 < qC h a := Classical.byContradiction fun z => y (Or.inr (Or.inl z))
    have y3 : e ≠ a := fun z => y (Or.inr (Or.inr z))
    refine V_drop (a := e) ?_ (fin (sK h1 e 0) (fun b x1 x2 => ?_) ?_ ?_ rfl rfl rfl rfl)
    · rw [p9 e y3 (Ne.symm y1), e3]
      show (if e = a then 18 else if e = e ∧ 0 < qC h a then 19 else h.1 e) ≠ 11
      rw [if_neg y3, if_pos ⟨rfl, y2⟩]; omega
    · rw [qK_sK]
      by_cases w : b = e
      · rw [if_pos w, w]; exact ((z1 y2).1).symm
      · rw [if_neg w, p9 b x1 x2, e3, rb b x1 (fun q => w q.1)]
    · rw [qK_sK, if_neg (Ne.symm y3)]; exact p1
    · rw [qK_sK, if_neg y1]; exact p6
theorem c_add3 {E : EV} {h : AH} {a e c : Nat} {xs : List Nat} (hk : qK h a = 18) (he : qF h 1001 a = .ref e) (hz : c = 0 → e = eZ E) (hke : 0 < c → qK h e = 19 ∧ qL h e = enc xs c) (hs : qF h 1002 a = .int (nI xs.length)) (hn : xs.length ≤ c) (hc : c < 20000) (h10 : c = 0 ∨ 10 ≤ c) (ho : ∀ y ∈ xs, 1 ≤ qK h y ∧ qK h y ≤ 10) {x : Nat} (hx : 1 ≤ qK h x ∧ qK h x ≤ 10) (hm : ∃ m, qF h 1000 a = .int m) : Ct E yJx4a65c_add_72be8 cJx4a65c_add_72be8 4 none 6 (gcap xs.length c - c) [.ref a, .ref x, .ref e, .int (nI xs.length)] h (fun v h1 => v = none ∧ ∃ e1, (xs.length < c → e1 = e) ∧ (c ≤ xs.length → qK h e1 = 0) ∧ rawP E h h1 a e1 (gcap xs.length c) (xs ++ [x])) noX := by
  refine Ct_of RJx4a65c (by decide +kernel) rfl (Nat.le_of_ble_eq_true rfl) (fun Γ X nt Q hin => ?_)
  have hgc := gcap_le xs.length c
  have hgt := gcap_gt hn
  refine V_iload_n (pc := 0) X 3 dJx4a65c_add_72be8_0 rfl ?_
  refine V_aload_n (pc := 1) X 2 dJx4a65c_add_72be8_1 rfl ?_
  refine a3_len X hz hke (by omega) dJx4a65c_add_72be8_2 ?_
  refine V_icmp_ne (pc := 3) X 11 dJx4a65c_add_72be8_3 (by decide) (fun c3 => ?_) (fun c3 => ?_)
  · have hlt : xs.length < c := by
      rcases Nat.lt_or_ge xs.length c with z | z
      · exact z
      · exact absurd (congrArg nI (show xs.length = c by omega)) c3
    have h0 : 0 < c := by omega
    obtain ⟨k1, k2⟩ := hke h0
    have hg : gcap xs.length c = c := by unfold gcap; rw [if_pos hlt]
    refine V_aload_n (pc := 11) X 2 dJx4a65c_add_72be8_11 rfl ?_
    refine V_iload_n (pc := 12) X 3 dJx4a65c_add_72be8_12 rfl ?_
    refine V_aload_n (pc := 13) X 1 dJx4a65c_add_72be8_13 rfl ?_
    refine V_aast (pc := 14) X k1 hx (by rw [k2, enc_len hn]; exact vp_in_nI hlt (by omega)) dJx4a65c_add_72be8_14 ?_
    rw [k2, nI_clamp (by omega), enc_add hlt]
    refine V_aload_n (pc := 15) X 0 dJx4a65c_add_72be8_15 rfl ?_
    refine V_iload_n (pc := 16) X 3 dJx4a65c_add_72be8_16 rfl ?_
    refine V_iconst (pc := 17) (v := 1) X dJx4a65c_add_72be8_17 (by decide) ?_
    refine V_iadd (pc := 18) X dJx4a65c_add_72be8_18 ?_
    refine V_putL (pc := 19) X fr_Jx4a65c_48 inW10 dJx4a65c_add_72be8_19 (by rw [qK_sL]; exact hk) ⟨rfl, rfl⟩ ?_
    rw [nI_1]
    refine V_vret (pc := 22) X Q rfl dJx4a65c_add_72be8_22 ?_
    refine ⟨rfl, e, fun _ => rfl, fun z => by omega, ?_⟩
    rw [hg]
    have hea : e ≠ a := fun z => by rw [z, hk] at k1; omega
    refine ⟨hk, ?_, ?_, ?_, h0, k1, ?_, by simp; omega, fun b _ _ => rfl, fun f b hb => ?_, fun b hb _ => ?_, fun b => ?_, fun b => rfl⟩
    · obtain ⟨m, hm⟩ := hm
      exact ⟨m, by rw [qF_sF, if_neg (fun z => by omega)]; exact hm⟩
    · rw [qF_sF, if_neg (fun z => by omega)]; exact he
    · rw [qF_sF, if_pos ⟨rfl, rfl⟩, List.length_append]; rfl
    · show (if e = e then _ else _) = _; rw [if_pos rfl]
    · rw [qF_sF, if_neg (fun z => hb z.2)]; rfl
    · show (if b = e then _ else _) = _; rw [if_neg hb]; rfl
    · show (if b = e then _ else _) = _; split
      · next z => rw [z]
      · rfl
  · have hlt : xs.length = c := (nI_eq (by omega) (by omega)).mp c3
    refine V_aload_n (pc := 6) X 0 dJx4a65c_add_72be8_6 rfl ?_
    refine V_callL (pc := 7) X (Or.inr hk) _ (c_grow0 hk he hz hke hs hlt hc h10 ho) cw_Jx4a65c_129 (Q.room (by decide) (by decide)) rfl (Nat.le_of_ble_eq_true rfl) rfl (by rw [hlt]; exact Nat.le_refl _) dJx4a65c_add_72be8_7 (fun _ _ z => z.elim) ?_
    rintro v7 h7 ⟨q7, rfl, hq7, rfl⟩
    simp only [Option.toList_some, List.cons_append, List.nil_append]
    have hqa : a ≠ q7 := fun z => by rw [← z, hk] at hq7; omega
    have hqx : x ≠ q7 := fun z => by rw [← z] at hq7; omega
    have g1 : qK (gR1 h a q7 (enc xs (gcap c c))) q7 = 19 := by rw [qK_gR1, if_pos rfl]
    have g2 : qL (gR1 h a q7 (enc xs (gcap c c))) q7 = enc xs (gcap c c) := by show (if q7 = q7 then _ else _) = _; rw [if_pos rfl]
    have g3 : qK (gR1 h a q7 (enc xs (gcap c c))) a = 18 := by rw [qK_gR1, if_neg hqa]; exact hk
    have hxc : xs.length < gcap c c := by rw [hlt] at hgt ⊢; exact hgt
    have hgb : gcap c c < 40000 := by unfold gcap; split <;> (try split) <;> omega
    refine V_astore_n (pc := 10) X [(2, .ref _), (0, .ref _), (1, .ref _), (3, .int _)] dJx4a65c_add_72be8_10 rfl (by decide) rfl ?_
    refine V_aload_n (pc := 11) X 0 dJx4a65c_add_72be8_11 rfl ?_
    refine V_iload_n (pc := 12) X 3 dJx4a65c_add_72be8_12 rfl ?_
    refine V_aload_n (pc := 13) X 2 dJx4a65c_add_72be8_13 rfl ?_
    refine V_aast (pc := 14) X g1 (by rw [qK_gR1, if_neg hqx]; exact hx) (by rw [g2, enc_len (by omega)]; exact vp_in_nI hxc (by omega)) dJx4a65c_add_72be8_14 ?_
    rw [g2, nI_clamp (by omega), enc_add hxc]
    refine V_aload_n (pc := 15) X 1 dJx4a65c_add_72be8_15 rfl ?_
    refine V_iload_n (pc := 16) X 3 dJx4a65c_add_72be8_16 rfl ?_
    refine V_iconst (pc := 17) (v := 1) X dJx4a65c_add_72be8_17 (by decide) ?_
    refine V_iadd (pc := 18) X dJx4a65c_add_72be8_18 ?_
    refine V_putL (pc := 19) X fr_Jx4a65c_48 inW10 dJx4a65c_add_72be8_19 (by rw [qK_sL]; exact g3) ⟨rfl, rfl⟩ ?_
    rw [nI_1]
    refine V_vret (pc := 22) X Q rfl dJx4a65c_add_72be8_22 ?_
    refine ⟨rfl, q7, fun z => by omega, fun _ => hq7, ?_⟩
    have hgg : gcap xs.length c = gcap c c := by rw [hlt]
    rw [hgg]
    refine ⟨g3, ?_, ?_, ?_, by omega, g1, ?_, by simp; omega, fun b hb hb2 => ?_, fun f b hb => ?_, fun b hb _ => ?_, fun b => ?_, fun b => rfl⟩
    · obtain ⟨m, hm⟩ := hm
      exact ⟨m, by rw [qF_sF, if_neg (fun z => by omega), qF_sL, qF_sF, if_neg (fun z => by omega)]; exact hm⟩
    · rw [qF_sF, if_neg (fun z => by omega), qF_sL, qF_sF, if_pos ⟨rfl, rfl⟩]
    · rw [qF_sF, if_pos ⟨rfl, rfl⟩, List.length_append]; rfl
    · show (if q7 = q7 then _ else _) = _; rw [if_pos rfl]
    · show (if b = q7 then 19 else qK h b) = qK h b; rw [if_neg hb2]
    · rw [qF_sF, if_neg (fun z => hb z.2), qF_sL, qF_sF, if_neg (fun z => hb z.2)]; rfl
    · show (if b = q7 then _ else (if b = q7 then _ else qL h b)) = _; rw [if_neg hb, if_neg hb]
    · show (if b = q7 then (if q7 = q7 then qC h q7 else qC h q7) else (if b = q7 then qC h q7 else qC h b)) = _; split
      · next z => rw [z, if_pos rfl]
      · rfl
theorem c_add {E : EV} {h : AH} {a x : Nat} (hk : qK h a = 11) (hx : 1 ≤ qK h x ∧ qK h x ≤ 10) (hc : qC h a < 20000) (ho : ∀ y ∈ qL h a, 1 ≤ qK h y ∧ qK h y ≤ 10) : Ct E yJx4a65c_add_9ea2d cJx4a65c_add_9ea2d 2 (some .boolean) 7 (gcap (qL h a).length (qC h a) - qC h a) [.ref a, .ref x] h (fun v h1 => v = some (.int 1) ∧ h1 = sL h a (qL h a ++ [x]) (gcap (qL h a).length (qC h a))) noX := by
  refine Ct_of RJx4a65c (by decide +kernel) rfl (Nat.le_of_ble_eq_true rfl) (fun Γ X nt Q hin => ?_)
  refine V_open X hk (fun e m z0 z1 => ?_)
  have ok : ∀ z, 1 ≤ qK h z ∧ qK h z ≤ 10 → 1 ≤ qK (rawL h a e m) z ∧ qK (rawL h a e m) z ≤ 10 := fun z hz => by
    rw [show qK (rawL h a e m) z = (if z = a then 18 else if z = e ∧ 0 < qC h a then 19 else qK h z) from rfl, if_neg (fun y => by rw [y, hk] at hz; omega), if_neg (fun y => by rw [y.1, (z1 y.2).1] at hz; omega)]
    exact hz
  have ra : qK (rawL h a e m) a = 18 := by simp [qK, rawL]
  have rm : qF (rawL h a e m) 1000 a = .int m := by simp [qF, rawL]
  have re : qF (rawL h a e m) 1001 a = .ref e := by simp [qF, rawL]
  have rs : qF (rawL h a e m) 1002 a = .int (nI (qL h a).length) := by simp [qF, rawL]
  have rk : 0 < qC h a → qK (rawL h a e m) e = 19 ∧ qL (rawL h a e m) e = enc (qL h a) (qC h a) := fun z => ⟨by simp [qK, rawL, (z1 z).2.1, z], raw_row z⟩
  have rl : (qL h a).length ≤ qC h a := by
    rcases Nat.eq_zero_or_pos (qC h a) with z | z
    · rw [(z0 z).2]; exact Nat.zero_le _
    · exact (z1 z).2.2.1
  have h10 : qC h a = 0 ∨ 10 ≤ qC h a := by
    rcases Nat.eq_zero_or_pos (qC h a) with z | z
    · exact Or.inl z
    · exact Or.inr (z1 z).2.2.2.1
  refine V_aload_n (pc := 0) X 0 dJx4a65c_add_9ea2d_0 rfl ?_
  refine V_dup (pc := 1) X dJx4a65c_add_9ea2d_1 rfl ?_
  refine V_getL (pc := 2) X fr_Jx4a65c_63 inW10 dJx4a65c_add_9ea2d_2 ra rm ?_
  refine V_iconst (pc := 5) (v := 1) X dJx4a65c_add_9ea2d_5 (by decide) ?_
  refine V_iadd (pc := 6) X dJx4a65c_add_9ea2d_6 ?_
  refine V_putL (pc := 7) X fr_Jx4a65c_63 inW10 dJx4a65c_add_9ea2d_7 ra ⟨rfl, rfl⟩ ?_
  refine V_aload_n (pc := 10) X 0 dJx4a65c_add_9ea2d_10 rfl ?_
  refine V_aload_n (pc := 11) X 1 dJx4a65c_add_9ea2d_11 rfl ?_
  refine V_aload_n (pc := 12) X 0 dJx4a65c_add_9ea2d_12 rfl ?_
  refine V_getL (pc := 13) X fr_Jx4a65c_9 inW10 dJx4a65c_add_9ea2d_13 ra (v := .ref e) (by rw [qF_sF, if_neg (fun z => by omega)]; exact re) ?_
  refine V_aload_n (pc := 16) X 0 dJx4a65c_add_9ea2d_16 rfl ?_
  refine V_getL (pc := 17) X fr_Jx4a65c_48 inW10 dJx4a65c_add_9ea2d_17 ra (v := .int (nI (qL h a).length)) (by rw [qF_sF, if_neg (fun z => by omega)]; exact rs) ?_
  refine V_callL (pc := 20) X (Or.inr ra) _ (c_add3 (h := sF (rawL h a e m) 1000 a (.int (m + 1))) (c := qC h a) (xs := qL h a) ra (by rw [qF_sF, if_neg (fun z => by omega)]; exact re) (fun z => (z0 z).1) rk (by rw [qF_sF, if_neg (fun z => by omega)]; exact rs) rl hc h10 (fun y hy => ok y (ho y hy)) (ok x hx) ⟨_, by rw [qF_sF, if_pos ⟨rfl, rfl⟩]⟩) cw_Jx4a65c_131 (Q.room (by decide) (by decide)) rfl (Nat.le_of_ble_eq_true rfl) rfl (Nat.le_refl _) dJx4a65c_add_9ea2d_20 (fun _ _ z => z.elim) ?_
  rintro v20 h20 ⟨rfl, e1, y1, y2, y3⟩
  simp only [Option.toList_none, List.nil_append]
  have hgc := gcap_le (qL h a).length (qC h a)
  have hgb : 10 ≤ gcap (qL h a).length (qC h a) ∧ gcap (qL h a).length (qC h a) < 40000 := by unfold gcap; split <;> (try split) <;> omega
  have y4 : e1 = e ∧ 0 < qC h a ∨ qK (rawL h a e m) e1 = 0 := by
    rcases Nat.lt_or_ge (qL h a).length (qC h a) with z | z
    · exact Or.inl ⟨y1 z, by omega⟩
    · exact Or.inr (y2 z)
  refine cl_rawP (hr := sF (rawL h a e m) 1000 a (.int (m + 1))) hk z0 z1 rfl (fun f b hb => by rw [qF_sF, if_neg (fun z => hb z.2)]) rfl (fun _ => rfl) (fun _ => rfl) y4 (fun z => ?_) hgb y3 ?_
  · rcases y4 with w | w
    · exact (z1 w.2).2.1 (w.1.symm.trans z)
    · rw [z, ra] at w; omega
  refine V_iconst (pc := 23) (v := 1) X dJx4a65c_add_9ea2d_23 (by decide) ?_
  refine V_iret (pc := 24) X Q rfl rfl dJx4a65c_add_9ea2d_24 ?_
  exact ⟨rfl, rfl⟩
