/-! THE MODEL IS MADE -/
def MI (h0 h : AH) (q n : Nat) (A : Nat → Nat) : Prop := qK h q = 10 ∧ own h q = .ref 10 ∧ Fs q h0 h ∧ (∀ i, isA i → i < n → qF h i q = .ref (A i) ∧ qK h (A i) = (if i = 917 ∨ i = 918 then 15 else 14) ∧ qI h (A i) = List.replicate (LN i) 0 ∧ own h (A i) = .ref 10 ∧ qK h0 (A i) = 0) ∧ (∀ i j, isA i → isA j → i < n → j < n → A i = A j → i = j) ∧ ∀ i, isS i → qF h i q = .int 0
theorem MI.step {h0 h : AH} {q n i a kd N : Nat} {A : Nat → Nat} (z : MI h0 h q n A) (ha : qK h a = 0) (hi : isA i) (hn : ∀ j, isA j → j < i + 1 → j < n ∨ j = i) (hN : N = LN i) (hk : kd = if i = 917 ∨ i = 918 then 15 else 14) : MI h0 (sF (sF (sI (sK h a kd) a (List.replicate N 0)) i q (.ref a)) 9999 a (.ref 10)) q (i + 1) (fun j => if j = i then a else A j) := by
  obtain ⟨z1, z2, z3, z4, z5, z6⟩ := z
  have haq : q ≠ a := fun u => by rw [u, ha] at z1; exact absurd z1 (by decide)
  have h9 : ∀ j, isA j → j ≠ 9999 := fun j hj u => by rw [u] at hj; unfold isA at hj; omega
  have hAa : ∀ j, isA j → j < n → A j ≠ a := fun j hj hjn u => by
    have := (z4 j hj hjn).2.1
    rw [u, ha] at this
    split at this <;> exact absurd this (by decide)
  have h0a : qK h0 a = 0 := by
    rcases Nat.eq_zero_or_pos (qK h0 a) with u | u
    · exact u
    · have := (z3 a (by omega) (fun w => haq w.symm)).1; omega
  refine ⟨?_, ?_, fun c hc hcq => ?_, fun j hj hjn => ?_, fun j k hj hk2 hjn hkn e => ?_, fun j hj => ?_⟩
  · rw [qK_sF, qK_sF, qK_sI, qK_sK, if_neg haq]; exact z1
  · unfold own
    rw [qF_sF, if_neg (fun u => haq u.2), qF_sF, if_neg (fun u => h9 i hi u.1.symm)]
    exact z2
  · obtain ⟨p1, p2, p3, p4, p5, p6⟩ := z3 c hc hcq
    have hca : c ≠ a := fun u => hc (by rw [u]; exact h0a)
    have f : ∀ f, qF (sF (sF (sI (sK h a kd) a (List.replicate N 0)) i q (.ref a)) 9999 a (.ref 10)) f c = qF h f c := fun f => by
      rw [qF_sF, if_neg (fun u => hca u.2), qF_sF, if_neg (fun u => hcq u.2)]; rfl
    refine ⟨?_, ?_, fun g => (f g).trans (p3 g), p4, p5, ?_⟩
    · rw [qK_sF, qK_sF, qK_sI, qK_sK, if_neg hca]; exact p1
    · exact (f 9999).trans p2
    · show qI (sI (sK h a kd) a (List.replicate N 0)) c = _
      rw [qI_sI, if_neg hca]; exact p6
  · by_cases ej : j = i
    · subst ej
      simp only [if_pos]
      refine ⟨?_, ?_, ?_, ?_, h0a⟩
      · rw [qF_sF, if_neg (fun u => h9 j hj u.1), qF_sF, if_pos ⟨rfl, rfl⟩]
      · rw [qK_sF, qK_sF, qK_sI, qK_sK, if_pos rfl]; exact hk
      · show qI (sI (sK h a kd) a (List.replicate N 0)) a = _
        rw [qI_sI, if_pos rfl, hN]
      · unfold own; rw [qF_sF, if_pos ⟨rfl, rfl⟩]
    · have hjn2 : j < n := (hn j hj hjn).resolve_right ej
      obtain ⟨y1, y2, y3, y4, y5⟩ := z4 j hj hjn2
      have hja := hAa j hj hjn2
      simp only [if_neg ej]
      refine ⟨?_, ?_, ?_, ?_, y5⟩
      · rw [qF_sF, if_neg (fun u => h9 j hj u.1), qF_sF, if_neg (fun u => ej u.1)]; exact y1
      · rw [qK_sF, qK_sF, qK_sI, qK_sK, if_neg hja]; exact y2
      · show qI (sI (sK h a kd) a (List.replicate N 0)) (A j) = _
        rw [qI_sI, if_neg hja]; exact y3
      · unfold own; rw [qF_sF, if_neg (fun u => hja u.2), qF_sF, if_neg (fun u => h9 i hi u.1.symm)]; exact y4
  · by_cases ej : j = i
    · by_cases ek : k = i
      · rw [ej, ek]
      · simp only [if_pos ej, if_neg ek] at e
        exact absurd e.symm (hAa k hk2 ((hn k hk2 hkn).resolve_right ek))
    · by_cases ek : k = i
      · simp only [if_neg ej, if_pos ek] at e
        exact absurd e (hAa j hj ((hn j hj hjn).resolve_right ej))
      · simp only [if_neg ej, if_neg ek] at e
        exact z5 j k hj hk2 ((hn j hj hjn).resolve_right ej) ((hn k hk2 hkn).resolve_right ek) e
  · rw [qF_sF, if_neg (fun u => haq u.2), qF_sF, if_neg (fun u => by have := u.1; subst this; unfold isS at hj; unfold isA at hi; omega)]
    exact z6 j hj
theorem MI.start {h : AH} {q : Nat} (h1 : qK h q = 10) (h2 : ∀ i, isS i → qF h i q = .int 0) : MI h (sF h 9999 q (.ref 10)) q 901 (fun _ => 0) := by
  refine ⟨h1, by unfold own; rw [qF_sF, if_pos ⟨rfl, rfl⟩], fun c hc hcq => ?_, fun i hi hn => by unfold isA at hi; omega, fun i j hi hj hn => by unfold isA at hi; omega, fun i hi => ?_⟩
  · exact ⟨rfl, by unfold own; rw [qF_sF, if_neg (fun u => hcq u.2)], fun f => by rw [qF_sF, if_neg (fun u => hcq u.2)], rfl, rfl, rfl⟩
  · rw [qF_sF, if_neg (fun u => by have := u.1; unfold isS at hi; omega)]; exact h2 i hi
theorem MI.mp {h0 h : AH} {q : Nat} {A : Nat → Nat} (z : MI h0 h q 931 A) : MP h q A (fun _ _ => 0) := by
  obtain ⟨z1, z2, z3, z4, z5, z6⟩ := z
  refine ⟨z1, z2, fun i hi => ?_, fun i j hi hj e => z5 i j hi hj (by unfold isA at hi; omega) (by unfold isA at hj; omega) e, fun i hi => z6 i hi⟩
  obtain ⟨y1, y2, y3, y4, y5⟩ := z4 i hi (by unfold isA at hi; omega)
  refine ⟨y1, y2, by rw [y3, List.length_replicate], y4, fun j hj => ?_⟩
  rw [y3, List.getD_eq_getElem?_getD, List.getElem?_replicate]
  split <;> rfl
theorem miV {E : EV} {Γ : VG} {b : Nat} {h0 h : AH} {pc : Nat} {lv : List (Nat × Value)} {st : List Value} {q n i a kd N : Nat} {A : Nat → Nat} (z : MI h0 h q n A) (ha : qK h a = 0) (hi : isA i) (hn : ∀ j, isA j → j < i + 1 → j < n ∨ j = i) (hN : N = LN i) (hk : kd = if i = 917 ∨ i = 918 then 15 else 14)
    (k : ∀ (h' : AH) (A' : Nat → Nat), MI h0 h' q (i + 1) A' → V E Γ b h' pc lv st) : V E Γ b (sF (sI (sK h a kd) a (List.replicate N 0)) i q (.ref a)) pc lv st := V_own a (.ref 10) (k _ _ (z.step ha hi hn hN hk))
theorem no74 {α : Type} {j : Nat} {o : α} (h : ([] : List α)[j]? = some o) : False := by simp at h
theorem RM_0 : RM (fun _ => (0, 0)) (fun _ _ => 0) z0S := by
  refine ⟨fun e he => ⟨⟨rfl, fun j o h => (no74 h).elim, rfl, fun j o h => (no74 h).elim, ⟨Nat.zero_le _, rfl, fun j o h => (no74 h).elim⟩, rfl, rfl, rfl, rfl, rfl, fun j o h => (no74 h).elim⟩, ⟨rfl, fun m hm => absurd (show ([] : List MG) = [m] from hm) (by simp)⟩⟩, ⟨Nat.zero_le _, rfl, fun j o h => (no74 h).elim⟩, ⟨rfl, rfl, fun j o h => (no74 h).elim, fun j hj => ?_, fun j o h => (no74 h).elim⟩, rfl⟩
  have : j = 0 := Nat.le_zero.mp hj
  subst this; rfl
theorem y_model {E : EV} {h : AH} {q : Nat} (hk : qK h q = 10) (hz : ∀ i, isS i → qF h i q = .int 0) : Ct E yX9_init cX9_init 1 none 6 2900 [.ref q] h (fun v h1 => v = none ∧ ∃ A, MP h1 q A (fun _ _ => 0) ∧ Fs q h h1) noX := by
  refine Ct_of RX9 (by decide +kernel) rfl (Nat.le_of_ble_eq_true rfl) (fun Γ X nt Q hin => ?_)
  refine V_own q (.ref 10) ?_
  have z0 := MI.start hk hz
  refine V_aload_n (pc := 0) X 0 dX9_init_0 rfl ?_
  refine V_objInit (pc := 1) X oi_X9_1 ⟨Q.fr (by decide), Q.lo (by decide)⟩ (Nat.le_of_ble_eq_true rfl) dX9_init_1 ?_
  refine V_aload_n (pc := 4) X 0 dX9_init_4 rfl ?_
  refine V_sipush (pc := 5) (v := 1401) X dX9_init_5 (by decide) ?_
  show V _ _ _ _ _ _ (Value.int (nI 1401) :: _)
  refine V_newarrI (pc := 8) X (kd := 14) (N := 1401) (u := 351) (Or.inr rfl) (by decide) (by decide) (by decide) ⟨by decide, by decide, by omega⟩ ac_int dX9_init_8 (fun q8 hq8 => ?_)
  refine V_putF (pc := 10) X hin fl_X9_7 dX9_init_10 (show qK (sI (sK _ _ _) _ _) q = 10 from by rw [qK_sI, qK_sK, if_neg (fun u => by rw [← u, z0.1] at hq8; exact absurd hq8 (by decide))]; exact z0.1) ⟨rfl, rfl⟩ ?_
  refine miV (kd := 14) (N := 1401) z0 hq8 (i := 901) (by unfold isA; decide) (fun j hj hjn => by unfold isA at hj; omega) rfl rfl (fun h901 A901 z901 => ?_)
  refine V_aload_n (pc := 13) X 0 dX9_init_13 rfl ?_
  refine V_sipush (pc := 14) (v := 1401) X dX9_init_14 (by decide) ?_
  show V _ _ _ _ _ _ (Value.int (nI 1401) :: _)
  refine V_newarrI (pc := 17) X (kd := 14) (N := 1401) (u := 351) (Or.inr rfl) (by decide) (by decide) (by decide) ⟨by decide, by decide, by omega⟩ ac_int dX9_init_17 (fun q17 hq17 => ?_)
  refine V_putF (pc := 19) X hin fl_X9_13 dX9_init_19 (show qK (sI (sK _ _ _) _ _) q = 10 from by rw [qK_sI, qK_sK, if_neg (fun u => by rw [← u, z901.1] at hq17; exact absurd hq17 (by decide))]; exact z901.1) ⟨rfl, rfl⟩ ?_
  refine miV (kd := 14) (N := 1401) z901 hq17 (i := 902) (by unfold isA; decide) (fun j hj hjn => by unfold isA at hj; omega) rfl rfl (fun h902 A902 z902 => ?_)
  refine V_aload_n (pc := 22) X 0 dX9_init_22 rfl ?_
  refine V_sipush (pc := 23) (v := 1401) X dX9_init_23 (by decide) ?_
  show V _ _ _ _ _ _ (Value.int (nI 1401) :: _)
  refine V_newarrI (pc := 26) X (kd := 14) (N := 1401) (u := 351) (Or.inr rfl) (by decide) (by decide) (by decide) ⟨by decide, by decide, by omega⟩ ac_int dX9_init_26 (fun q26 hq26 => ?_)
  refine V_putF (pc := 28) X hin fl_X9_16 dX9_init_28 (show qK (sI (sK _ _ _) _ _) q = 10 from by rw [qK_sI, qK_sK, if_neg (fun u => by rw [← u, z902.1] at hq26; exact absurd hq26 (by decide))]; exact z902.1) ⟨rfl, rfl⟩ ?_
  refine miV (kd := 14) (N := 1401) z902 hq26 (i := 903) (by unfold isA; decide) (fun j hj hjn => by unfold isA at hj; omega) rfl rfl (fun h903 A903 z903 => ?_)
  refine V_aload_n (pc := 31) X 0 dX9_init_31 rfl ?_
  refine V_sipush (pc := 32) (v := 1401) X dX9_init_32 (by decide) ?_
  show V _ _ _ _ _ _ (Value.int (nI 1401) :: _)
  refine V_newarrI (pc := 35) X (kd := 14) (N := 1401) (u := 351) (Or.inr rfl) (by decide) (by decide) (by decide) ⟨by decide, by decide, by omega⟩ ac_int dX9_init_35 (fun q35 hq35 => ?_)
  refine V_putF (pc := 37) X hin fl_X9_19 dX9_init_37 (show qK (sI (sK _ _ _) _ _) q = 10 from by rw [qK_sI, qK_sK, if_neg (fun u => by rw [← u, z903.1] at hq35; exact absurd hq35 (by decide))]; exact z903.1) ⟨rfl, rfl⟩ ?_
  refine miV (kd := 14) (N := 1401) z903 hq35 (i := 904) (by unfold isA; decide) (fun j hj hjn => by unfold isA at hj; omega) rfl rfl (fun h904 A904 z904 => ?_)
  refine V_aload_n (pc := 40) X 0 dX9_init_40 rfl ?_
  refine V_sipush (pc := 41) (v := 1401) X dX9_init_41 (by decide) ?_
  show V _ _ _ _ _ _ (Value.int (nI 1401) :: _)
  refine V_newarrI (pc := 44) X (kd := 14) (N := 1401) (u := 351) (Or.inr rfl) (by decide) (by decide) (by decide) ⟨by decide, by decide, by omega⟩ ac_int dX9_init_44 (fun q44 hq44 => ?_)
  refine V_putF (pc := 46) X hin fl_X9_22 dX9_init_46 (show qK (sI (sK _ _ _) _ _) q = 10 from by rw [qK_sI, qK_sK, if_neg (fun u => by rw [← u, z904.1] at hq44; exact absurd hq44 (by decide))]; exact z904.1) ⟨rfl, rfl⟩ ?_
  refine miV (kd := 14) (N := 1401) z904 hq44 (i := 905) (by unfold isA; decide) (fun j hj hjn => by unfold isA at hj; omega) rfl rfl (fun h905 A905 z905 => ?_)
  refine V_aload_n (pc := 49) X 0 dX9_init_49 rfl ?_
  refine V_sipush (pc := 50) (v := 603) X dX9_init_50 (by decide) ?_
  show V _ _ _ _ _ _ (Value.int (nI 603) :: _)
  refine V_newarrI (pc := 53) X (kd := 14) (N := 603) (u := 151) (Or.inr rfl) (by decide) (by decide) (by decide) ⟨by decide, by decide, by omega⟩ ac_int dX9_init_53 (fun q53 hq53 => ?_)
  refine V_putF (pc := 55) X hin fl_X9_25 dX9_init_55 (show qK (sI (sK _ _ _) _ _) q = 10 from by rw [qK_sI, qK_sK, if_neg (fun u => by rw [← u, z905.1] at hq53; exact absurd hq53 (by decide))]; exact z905.1) ⟨rfl, rfl⟩ ?_
  refine miV (kd := 14) (N := 603) z905 hq53 (i := 906) (by unfold isA; decide) (fun j hj hjn => by unfold isA at hj; omega) rfl rfl (fun h906 A906 z906 => ?_)
  refine V_aload_n (pc := 58) X 0 dX9_init_58 rfl ?_
  refine V_sipush (pc := 59) (v := 603) X dX9_init_59 (by decide) ?_
  show V _ _ _ _ _ _ (Value.int (nI 603) :: _)
  refine V_newarrI (pc := 62) X (kd := 14) (N := 603) (u := 151) (Or.inr rfl) (by decide) (by decide) (by decide) ⟨by decide, by decide, by omega⟩ ac_int dX9_init_62 (fun q62 hq62 => ?_)
  refine V_putF (pc := 64) X hin fl_X9_28 dX9_init_64 (show qK (sI (sK _ _ _) _ _) q = 10 from by rw [qK_sI, qK_sK, if_neg (fun u => by rw [← u, z906.1] at hq62; exact absurd hq62 (by decide))]; exact z906.1) ⟨rfl, rfl⟩ ?_
  refine miV (kd := 14) (N := 603) z906 hq62 (i := 907) (by unfold isA; decide) (fun j hj hjn => by unfold isA at hj; omega) rfl rfl (fun h907 A907 z907 => ?_)
  refine V_aload_n (pc := 67) X 0 dX9_init_67 rfl ?_
  refine V_sipush (pc := 68) (v := 603) X dX9_init_68 (by decide) ?_
  show V _ _ _ _ _ _ (Value.int (nI 603) :: _)
  refine V_newarrI (pc := 71) X (kd := 14) (N := 603) (u := 151) (Or.inr rfl) (by decide) (by decide) (by decide) ⟨by decide, by decide, by omega⟩ ac_int dX9_init_71 (fun q71 hq71 => ?_)
  refine V_putF (pc := 73) X hin fl_X9_31 dX9_init_73 (show qK (sI (sK _ _ _) _ _) q = 10 from by rw [qK_sI, qK_sK, if_neg (fun u => by rw [← u, z907.1] at hq71; exact absurd hq71 (by decide))]; exact z907.1) ⟨rfl, rfl⟩ ?_
  refine miV (kd := 14) (N := 603) z907 hq71 (i := 908) (by unfold isA; decide) (fun j hj hjn => by unfold isA at hj; omega) rfl rfl (fun h908 A908 z908 => ?_)
  refine V_aload_n (pc := 76) X 0 dX9_init_76 rfl ?_
  refine V_iconst (pc := 77) (v := 3) X dX9_init_77 (by decide) ?_
  show V _ _ _ _ _ _ (Value.int (nI 3) :: _)
  refine V_newarrI (pc := 78) X (kd := 14) (N := 3) (u := 3) (Or.inr rfl) (by decide) (by decide) (by decide) ⟨by decide, by decide, by omega⟩ ac_int dX9_init_78 (fun q78 hq78 => ?_)
  refine V_putF (pc := 80) X hin fl_X9_34 dX9_init_80 (show qK (sI (sK _ _ _) _ _) q = 10 from by rw [qK_sI, qK_sK, if_neg (fun u => by rw [← u, z908.1] at hq78; exact absurd hq78 (by decide))]; exact z908.1) ⟨rfl, rfl⟩ ?_
  refine miV (kd := 14) (N := 3) z908 hq78 (i := 909) (by unfold isA; decide) (fun j hj hjn => by unfold isA at hj; omega) rfl rfl (fun h909 A909 z909 => ?_)
  refine V_aload_n (pc := 83) X 0 dX9_init_83 rfl ?_
  refine V_iconst (pc := 84) (v := 2) X dX9_init_84 (by decide) ?_
  show V _ _ _ _ _ _ (Value.int (nI 2) :: _)
  refine V_newarrI (pc := 85) X (kd := 14) (N := 2) (u := 3) (Or.inr rfl) (by decide) (by decide) (by decide) ⟨by decide, by decide, by omega⟩ ac_int dX9_init_85 (fun q85 hq85 => ?_)
  refine V_putF (pc := 87) X hin fl_X9_37 dX9_init_87 (show qK (sI (sK _ _ _) _ _) q = 10 from by rw [qK_sI, qK_sK, if_neg (fun u => by rw [← u, z909.1] at hq85; exact absurd hq85 (by decide))]; exact z909.1) ⟨rfl, rfl⟩ ?_
  refine miV (kd := 14) (N := 2) z909 hq85 (i := 910) (by unfold isA; decide) (fun j hj hjn => by unfold isA at hj; omega) rfl rfl (fun h910 A910 z910 => ?_)
  refine V_aload_n (pc := 90) X 0 dX9_init_90 rfl ?_
  refine V_iconst (pc := 91) (v := 2) X dX9_init_91 (by decide) ?_
  show V _ _ _ _ _ _ (Value.int (nI 2) :: _)
  refine V_newarrI (pc := 92) X (kd := 14) (N := 2) (u := 3) (Or.inr rfl) (by decide) (by decide) (by decide) ⟨by decide, by decide, by omega⟩ ac_int dX9_init_92 (fun q92 hq92 => ?_)
  refine V_putF (pc := 94) X hin fl_X9_40 dX9_init_94 (show qK (sI (sK _ _ _) _ _) q = 10 from by rw [qK_sI, qK_sK, if_neg (fun u => by rw [← u, z910.1] at hq92; exact absurd hq92 (by decide))]; exact z910.1) ⟨rfl, rfl⟩ ?_
  refine miV (kd := 14) (N := 2) z910 hq92 (i := 911) (by unfold isA; decide) (fun j hj hjn => by unfold isA at hj; omega) rfl rfl (fun h911 A911 z911 => ?_)
  refine V_aload_n (pc := 97) X 0 dX9_init_97 rfl ?_
  refine V_iconst (pc := 98) (v := 2) X dX9_init_98 (by decide) ?_
  show V _ _ _ _ _ _ (Value.int (nI 2) :: _)
  refine V_newarrI (pc := 99) X (kd := 14) (N := 2) (u := 3) (Or.inr rfl) (by decide) (by decide) (by decide) ⟨by decide, by decide, by omega⟩ ac_int dX9_init_99 (fun q99 hq99 => ?_)
  refine V_putF (pc := 101) X hin fl_X9_43 dX9_init_101 (show qK (sI (sK _ _ _) _ _) q = 10 from by rw [qK_sI, qK_sK, if_neg (fun u => by rw [← u, z911.1] at hq99; exact absurd hq99 (by decide))]; exact z911.1) ⟨rfl, rfl⟩ ?_
  refine miV (kd := 14) (N := 2) z911 hq99 (i := 912) (by unfold isA; decide) (fun j hj hjn => by unfold isA at hj; omega) rfl rfl (fun h912 A912 z912 => ?_)
  refine V_aload_n (pc := 104) X 0 dX9_init_104 rfl ?_
  refine V_iconst (pc := 105) (v := 2) X dX9_init_105 (by decide) ?_
  show V _ _ _ _ _ _ (Value.int (nI 2) :: _)
  refine V_newarrI (pc := 106) X (kd := 14) (N := 2) (u := 3) (Or.inr rfl) (by decide) (by decide) (by decide) ⟨by decide, by decide, by omega⟩ ac_int dX9_init_106 (fun q106 hq106 => ?_)
  refine V_putF (pc := 108) X hin fl_X9_46 dX9_init_108 (show qK (sI (sK _ _ _) _ _) q = 10 from by rw [qK_sI, qK_sK, if_neg (fun u => by rw [← u, z912.1] at hq106; exact absurd hq106 (by decide))]; exact z912.1) ⟨rfl, rfl⟩ ?_
  refine miV (kd := 14) (N := 2) z912 hq106 (i := 913) (by unfold isA; decide) (fun j hj hjn => by unfold isA at hj; omega) rfl rfl (fun h913 A913 z913 => ?_)
  refine V_aload_n (pc := 111) X 0 dX9_init_111 rfl ?_
  refine V_iconst (pc := 112) (v := 2) X dX9_init_112 (by decide) ?_
  show V _ _ _ _ _ _ (Value.int (nI 2) :: _)
  refine V_newarrI (pc := 113) X (kd := 14) (N := 2) (u := 3) (Or.inr rfl) (by decide) (by decide) (by decide) ⟨by decide, by decide, by omega⟩ ac_int dX9_init_113 (fun q113 hq113 => ?_)
  refine V_putF (pc := 115) X hin fl_X9_49 dX9_init_115 (show qK (sI (sK _ _ _) _ _) q = 10 from by rw [qK_sI, qK_sK, if_neg (fun u => by rw [← u, z913.1] at hq113; exact absurd hq113 (by decide))]; exact z913.1) ⟨rfl, rfl⟩ ?_
  refine miV (kd := 14) (N := 2) z913 hq113 (i := 914) (by unfold isA; decide) (fun j hj hjn => by unfold isA at hj; omega) rfl rfl (fun h914 A914 z914 => ?_)
  refine V_aload_n (pc := 118) X 0 dX9_init_118 rfl ?_
  refine V_iconst (pc := 119) (v := 2) X dX9_init_119 (by decide) ?_
  show V _ _ _ _ _ _ (Value.int (nI 2) :: _)
  refine V_newarrI (pc := 120) X (kd := 14) (N := 2) (u := 3) (Or.inr rfl) (by decide) (by decide) (by decide) ⟨by decide, by decide, by omega⟩ ac_int dX9_init_120 (fun q120 hq120 => ?_)
  refine V_putF (pc := 122) X hin fl_X9_52 dX9_init_122 (show qK (sI (sK _ _ _) _ _) q = 10 from by rw [qK_sI, qK_sK, if_neg (fun u => by rw [← u, z914.1] at hq120; exact absurd hq120 (by decide))]; exact z914.1) ⟨rfl, rfl⟩ ?_
  refine miV (kd := 14) (N := 2) z914 hq120 (i := 915) (by unfold isA; decide) (fun j hj hjn => by unfold isA at hj; omega) rfl rfl (fun h915 A915 z915 => ?_)
  refine V_aload_n (pc := 125) X 0 dX9_init_125 rfl ?_
  refine V_iconst (pc := 126) (v := 2) X dX9_init_126 (by decide) ?_
  show V _ _ _ _ _ _ (Value.int (nI 2) :: _)
  refine V_newarrI (pc := 127) X (kd := 14) (N := 2) (u := 3) (Or.inr rfl) (by decide) (by decide) (by decide) ⟨by decide, by decide, by omega⟩ ac_int dX9_init_127 (fun q127 hq127 => ?_)
  refine V_putF (pc := 129) X hin fl_X9_55 dX9_init_129 (show qK (sI (sK _ _ _) _ _) q = 10 from by rw [qK_sI, qK_sK, if_neg (fun u => by rw [← u, z915.1] at hq127; exact absurd hq127 (by decide))]; exact z915.1) ⟨rfl, rfl⟩ ?_
  refine miV (kd := 14) (N := 2) z915 hq127 (i := 916) (by unfold isA; decide) (fun j hj hjn => by unfold isA at hj; omega) rfl rfl (fun h916 A916 z916 => ?_)
  refine V_aload_n (pc := 132) X 0 dX9_init_132 rfl ?_
  refine V_iconst (pc := 133) (v := 2) X dX9_init_133 (by decide) ?_
  show V _ _ _ _ _ _ (Value.int (nI 2) :: _)
  refine V_newarrZ (pc := 134) X (by decide) (by decide) (by decide) (N := 2) (u := 3) ⟨by decide, by decide, by omega⟩ ac_boolean dX9_init_134 (fun q134 hq134 => ?_)
  refine V_putF (pc := 136) X hin fl_X9_58 dX9_init_136 (show qK (sI (sK _ _ _) _ _) q = 10 from by rw [qK_sI, qK_sK, if_neg (fun u => by rw [← u, z916.1] at hq134; exact absurd hq134 (by decide))]; exact z916.1) ⟨rfl, rfl⟩ ?_
  refine miV (kd := 15) (N := 2) z916 hq134 (i := 917) (by unfold isA; decide) (fun j hj hjn => by unfold isA at hj; omega) rfl rfl (fun h917 A917 z917 => ?_)
  refine V_aload_n (pc := 139) X 0 dX9_init_139 rfl ?_
  refine V_iconst (pc := 140) (v := 2) X dX9_init_140 (by decide) ?_
  show V _ _ _ _ _ _ (Value.int (nI 2) :: _)
  refine V_newarrZ (pc := 141) X (by decide) (by decide) (by decide) (N := 2) (u := 3) ⟨by decide, by decide, by omega⟩ ac_boolean dX9_init_141 (fun q141 hq141 => ?_)
  refine V_putF (pc := 143) X hin fl_X9_62 dX9_init_143 (show qK (sI (sK _ _ _) _ _) q = 10 from by rw [qK_sI, qK_sK, if_neg (fun u => by rw [← u, z917.1] at hq141; exact absurd hq141 (by decide))]; exact z917.1) ⟨rfl, rfl⟩ ?_
  refine miV (kd := 15) (N := 2) z917 hq141 (i := 918) (by unfold isA; decide) (fun j hj hjn => by unfold isA at hj; omega) rfl rfl (fun h918 A918 z918 => ?_)
  refine V_aload_n (pc := 146) X 0 dX9_init_146 rfl ?_
  refine V_sipush (pc := 147) (v := 400) X dX9_init_147 (by decide) ?_
  show V _ _ _ _ _ _ (Value.int (nI 400) :: _)
  refine V_newarrI (pc := 150) X (kd := 14) (N := 400) (u := 100) (Or.inr rfl) (by decide) (by decide) (by decide) ⟨by decide, by decide, by omega⟩ ac_int dX9_init_150 (fun q150 hq150 => ?_)
  refine V_putF (pc := 152) X hin fl_X9_65 dX9_init_152 (show qK (sI (sK _ _ _) _ _) q = 10 from by rw [qK_sI, qK_sK, if_neg (fun u => by rw [← u, z918.1] at hq150; exact absurd hq150 (by decide))]; exact z918.1) ⟨rfl, rfl⟩ ?_
  refine miV (kd := 14) (N := 400) z918 hq150 (i := 919) (by unfold isA; decide) (fun j hj hjn => by unfold isA at hj; omega) rfl rfl (fun h919 A919 z919 => ?_)
  refine V_aload_n (pc := 155) X 0 dX9_init_155 rfl ?_
  refine V_sipush (pc := 156) (v := 400) X dX9_init_156 (by decide) ?_
  show V _ _ _ _ _ _ (Value.int (nI 400) :: _)
  refine V_newarrI (pc := 159) X (kd := 14) (N := 400) (u := 100) (Or.inr rfl) (by decide) (by decide) (by decide) ⟨by decide, by decide, by omega⟩ ac_int dX9_init_159 (fun q159 hq159 => ?_)
  refine V_putF (pc := 161) X hin fl_X9_68 dX9_init_161 (show qK (sI (sK _ _ _) _ _) q = 10 from by rw [qK_sI, qK_sK, if_neg (fun u => by rw [← u, z919.1] at hq159; exact absurd hq159 (by decide))]; exact z919.1) ⟨rfl, rfl⟩ ?_
  refine miV (kd := 14) (N := 400) z919 hq159 (i := 920) (by unfold isA; decide) (fun j hj hjn => by unfold isA at hj; omega) rfl rfl (fun h920 A920 z920 => ?_)
  refine V_aload_n (pc := 164) X 0 dX9_init_164 rfl ?_
  refine V_sipush (pc := 165) (v := 400) X dX9_init_165 (by decide) ?_
  show V _ _ _ _ _ _ (Value.int (nI 400) :: _)
  refine V_newarrI (pc := 168) X (kd := 14) (N := 400) (u := 100) (Or.inr rfl) (by decide) (by decide) (by decide) ⟨by decide, by decide, by omega⟩ ac_int dX9_init_168 (fun q168 hq168 => ?_)
  refine V_putF (pc := 170) X hin fl_X9_71 dX9_init_170 (show qK (sI (sK _ _ _) _ _) q = 10 from by rw [qK_sI, qK_sK, if_neg (fun u => by rw [← u, z920.1] at hq168; exact absurd hq168 (by decide))]; exact z920.1) ⟨rfl, rfl⟩ ?_
  refine miV (kd := 14) (N := 400) z920 hq168 (i := 921) (by unfold isA; decide) (fun j hj hjn => by unfold isA at hj; omega) rfl rfl (fun h921 A921 z921 => ?_)
  refine V_aload_n (pc := 173) X 0 dX9_init_173 rfl ?_
  refine V_sipush (pc := 174) (v := 400) X dX9_init_174 (by decide) ?_
  show V _ _ _ _ _ _ (Value.int (nI 400) :: _)
  refine V_newarrI (pc := 177) X (kd := 14) (N := 400) (u := 100) (Or.inr rfl) (by decide) (by decide) (by decide) ⟨by decide, by decide, by omega⟩ ac_int dX9_init_177 (fun q177 hq177 => ?_)
  refine V_putF (pc := 179) X hin fl_X9_74 dX9_init_179 (show qK (sI (sK _ _ _) _ _) q = 10 from by rw [qK_sI, qK_sK, if_neg (fun u => by rw [← u, z921.1] at hq177; exact absurd hq177 (by decide))]; exact z921.1) ⟨rfl, rfl⟩ ?_
  refine miV (kd := 14) (N := 400) z921 hq177 (i := 922) (by unfold isA; decide) (fun j hj hjn => by unfold isA at hj; omega) rfl rfl (fun h922 A922 z922 => ?_)
  refine V_aload_n (pc := 182) X 0 dX9_init_182 rfl ?_
  refine V_iconst (pc := 183) (v := 2) X dX9_init_183 (by decide) ?_
  show V _ _ _ _ _ _ (Value.int (nI 2) :: _)
  refine V_newarrI (pc := 184) X (kd := 14) (N := 2) (u := 3) (Or.inr rfl) (by decide) (by decide) (by decide) ⟨by decide, by decide, by omega⟩ ac_int dX9_init_184 (fun q184 hq184 => ?_)
  refine V_putF (pc := 186) X hin fl_X9_77 dX9_init_186 (show qK (sI (sK _ _ _) _ _) q = 10 from by rw [qK_sI, qK_sK, if_neg (fun u => by rw [← u, z922.1] at hq184; exact absurd hq184 (by decide))]; exact z922.1) ⟨rfl, rfl⟩ ?_
  refine miV (kd := 14) (N := 2) z922 hq184 (i := 923) (by unfold isA; decide) (fun j hj hjn => by unfold isA at hj; omega) rfl rfl (fun h923 A923 z923 => ?_)
  refine V_aload_n (pc := 189) X 0 dX9_init_189 rfl ?_
  refine V_sipush (pc := 190) (v := 201) X dX9_init_190 (by decide) ?_
  show V _ _ _ _ _ _ (Value.int (nI 201) :: _)
  refine V_newarrI (pc := 193) X (kd := 14) (N := 201) (u := 51) (Or.inr rfl) (by decide) (by decide) (by decide) ⟨by decide, by decide, by omega⟩ ac_int dX9_init_193 (fun q193 hq193 => ?_)
  refine V_putF (pc := 195) X hin fl_X9_80 dX9_init_195 (show qK (sI (sK _ _ _) _ _) q = 10 from by rw [qK_sI, qK_sK, if_neg (fun u => by rw [← u, z923.1] at hq193; exact absurd hq193 (by decide))]; exact z923.1) ⟨rfl, rfl⟩ ?_
  refine miV (kd := 14) (N := 201) z923 hq193 (i := 924) (by unfold isA; decide) (fun j hj hjn => by unfold isA at hj; omega) rfl rfl (fun h924 A924 z924 => ?_)
  refine V_aload_n (pc := 198) X 0 dX9_init_198 rfl ?_
  refine V_sipush (pc := 199) (v := 200) X dX9_init_199 (by decide) ?_
  show V _ _ _ _ _ _ (Value.int (nI 200) :: _)
  refine V_newarrI (pc := 202) X (kd := 14) (N := 200) (u := 50) (Or.inr rfl) (by decide) (by decide) (by decide) ⟨by decide, by decide, by omega⟩ ac_int dX9_init_202 (fun q202 hq202 => ?_)
  refine V_putF (pc := 204) X hin fl_X9_83 dX9_init_204 (show qK (sI (sK _ _ _) _ _) q = 10 from by rw [qK_sI, qK_sK, if_neg (fun u => by rw [← u, z924.1] at hq202; exact absurd hq202 (by decide))]; exact z924.1) ⟨rfl, rfl⟩ ?_
  refine miV (kd := 14) (N := 200) z924 hq202 (i := 925) (by unfold isA; decide) (fun j hj hjn => by unfold isA at hj; omega) rfl rfl (fun h925 A925 z925 => ?_)
  refine V_aload_n (pc := 207) X 0 dX9_init_207 rfl ?_
  refine V_sipush (pc := 208) (v := 201) X dX9_init_208 (by decide) ?_
  show V _ _ _ _ _ _ (Value.int (nI 201) :: _)
  refine V_newarrI (pc := 211) X (kd := 14) (N := 201) (u := 51) (Or.inr rfl) (by decide) (by decide) (by decide) ⟨by decide, by decide, by omega⟩ ac_int dX9_init_211 (fun q211 hq211 => ?_)
  refine V_putF (pc := 213) X hin fl_X9_86 dX9_init_213 (show qK (sI (sK _ _ _) _ _) q = 10 from by rw [qK_sI, qK_sK, if_neg (fun u => by rw [← u, z925.1] at hq211; exact absurd hq211 (by decide))]; exact z925.1) ⟨rfl, rfl⟩ ?_
  refine miV (kd := 14) (N := 201) z925 hq211 (i := 929) (by unfold isA; decide) (fun j hj hjn => by unfold isA at hj; omega) rfl rfl (fun h929 A929 z929 => ?_)
  refine V_aload_n (pc := 216) X 0 dX9_init_216 rfl ?_
  refine V_sipush (pc := 217) (v := 201) X dX9_init_217 (by decide) ?_
  show V _ _ _ _ _ _ (Value.int (nI 201) :: _)
  refine V_newarrI (pc := 220) X (kd := 14) (N := 201) (u := 51) (Or.inr rfl) (by decide) (by decide) (by decide) ⟨by decide, by decide, by omega⟩ ac_int dX9_init_220 (fun q220 hq220 => ?_)
  refine V_putF (pc := 222) X hin fl_X9_89 dX9_init_222 (show qK (sI (sK _ _ _) _ _) q = 10 from by rw [qK_sI, qK_sK, if_neg (fun u => by rw [← u, z929.1] at hq220; exact absurd hq220 (by decide))]; exact z929.1) ⟨rfl, rfl⟩ ?_
  refine miV (kd := 14) (N := 201) z929 hq220 (i := 930) (by unfold isA; decide) (fun j hj hjn => by unfold isA at hj; omega) rfl rfl (fun h930 A930 z930 => ?_)
  refine V_vret (pc := 225) X Q rfl dX9_init_225 ?_
  exact ⟨rfl, _, z930.mp, z930.2.2.1⟩
