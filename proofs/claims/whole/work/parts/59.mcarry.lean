/-! THE MODEL: AN OPERATION IS CARRIED OUT -/
/-- the text t has the letters xs -/
def TM (tb : Nat → Nat × Nat) (F : MS') (t : Nat) (xs : List Nat) : Prop := xs.length ≤ 200 ∧ F 909 t = nI xs.length ∧ ∀ (j x : Nat), xs[j]? = some x → F 906 (201 * t + j) = nI (tb x).1 ∧ F 907 (201 * t + j) = nI x ∧ F 908 (201 * t + j) = nI (tb x).2
theorem TM.same {tb : Nat → Nat × Nat} {F F' : MS'} {t : Nat} {xs : List Nat} (z : TM tb F t xs) (h1 : F' 909 t = F 909 t) (h2 : ∀ x y, 906 ≤ x → x ≤ 908 → 201 * t ≤ y → y < 201 * t + 201 → F' x y = F x y) : TM tb F' t xs := by
  obtain ⟨z1, z2, z3⟩ := z
  refine ⟨z1, h1.trans z2, fun j x hx => ?_⟩
  have hj := (List.getElem?_eq_some_iff.mp hx).1
  obtain ⟨a, b, c⟩ := z3 j x hx
  exact ⟨(h2 906 _ (by decide) (by decide) (by omega) (by omega)).trans a, (h2 907 _ (by decide) (by decide) (by omega) (by omega)).trans b, (h2 908 _ (by decide) (by decide) (by omega) (by omega)).trans c⟩
/-- what a carrying out of o on the text t leaves as it is -/
def KT (F F' : MS') (t : Nat) : Prop := (∀ x y, ¬ (906 ≤ x ∧ x ≤ 909) → F' x y = F x y) ∧ (∀ x y, 906 ≤ x → x ≤ 908 → ¬ (201 * t ≤ y ∧ y < 201 * t + 201) → F' x y = F x y) ∧ ∀ y, y ≠ t → F' 909 y = F 909 y
theorem KT.refl (F : MS') (t : Nat) : KT F F t := ⟨fun _ _ _ => rfl, fun _ _ _ _ _ => rfl, fun _ _ => rfl⟩
theorem ins_at {xs : List Nat} {p x : Nat} (hp : p ≤ xs.length) (j : Nat) : (xs.take p ++ x :: xs.drop p)[j]? = if j < p then xs[j]? else if j = p then some x else xs[j - 1]? := by
  have hl : (xs.take p).length = p := by rw [List.length_take]; omega
  by_cases a : j < p
  · rw [if_pos a, List.getElem?_append_left (by omega), List.getElem?_take_of_lt a]
  · rw [if_neg a, List.getElem?_append_right (by omega), hl]
    by_cases b : j = p
    · rw [if_pos b, b, Nat.sub_self]; rfl
    · rw [if_neg b]
      obtain ⟨k, hk⟩ : ∃ k, j - p = k + 1 := ⟨j - p - 1, by omega⟩
      rw [hk, List.getElem?_cons_succ, List.getElem?_drop]
      exact congrArg (fun j => xs[j]?) (by omega)
theorem del_at {xs : List Nat} {p : Nat} (hp : p < xs.length) (j : Nat) : (xs.take p ++ xs.drop (p + 1))[j]? = if j < p then xs[j]? else xs[j + 1]? := by
  have hl : (xs.take p).length = p := by rw [List.length_take]; omega
  by_cases a : j < p
  · rw [if_pos a, List.getElem?_append_left (by omega), List.getElem?_take_of_lt a]
  · rw [if_neg a, List.getElem?_append_right (by omega), hl, List.getElem?_drop]
    exact congrArg (fun j => xs[j]?) (by omega)
theorem m_carries {E : EV} {h : AH} {q : Nat} {A : Nat → Nat} {F : MS'} (mp : MP h q A F) {tb : Nat → Nat × Nat} {t i : Nat} {o : SO} {xs : List Nat} (ht : t ≤ 2) (hi : i < 1401) (so : SL tb F i o) (tx : TM tb F t xs) (v : vO o xs.length) (hl : (apO o xs).length ≤ 200) (hw : o.1 = 1 → (tb o.2.2.1).2 = o.2.2.2) : Ct E yX9_carriesOut cX9_carriesOut 6 none 2 0 [.ref q, .int (nI t), .int (nI i)] h (fun v h1 => v = none ∧ ∃ F', MP h1 q A F' ∧ FM h h1 ∧ KT F F' t ∧ TM tb F' t (apO o xs)) noX := by
  refine Ct_of RX9 (by decide +kernel) rfl (Nat.le_of_ble_eq_true rfl) (fun Γ X nt Q hin => ?_)
  have gm := FM.refl h
  have o1 := so.1
  obtain ⟨t1, t2, t3⟩ := tx
  have hp := vO_p v
  refine V_sipush (pc := 0) (v := 201) X dX9_carriesOut_0 (by decide) ?_
  show V _ _ _ _ _ _ (Value.int (nI 201) :: _)
  refine V_iload_n (pc := 3) X 1 dX9_carriesOut_3 rfl ?_
  refine V_imul (pc := 4) X dX9_carriesOut_4 ?_
  rw [pk_mul]
  refine V_istore_n (pc := 5) X [(3, .int _), (0, .ref _), (1, .int _), (2, .int _)] dX9_carriesOut_5 rfl (by decide) rfl ?_
  refine V_iload_n (pc := 6) X 0 dX9_carriesOut_6 rfl ?_
  refine V_aload_n (pc := 7) X 1 dX9_carriesOut_7 rfl ?_
  refine V_get (pc := 8) X fl_X9_13 dX9_carriesOut_8 mp.k (mp.f 902) ?_
  refine V_iload_n (pc := 11) X 3 dX9_carriesOut_11 rfl ?_
  refine M_ald (pc := 12) X mp ⟨by unfold isA; decide, by decide⟩ (by show _ < 1401; omega) dX9_carriesOut_12 ?_
  refine V_iadd (pc := 13) X dX9_carriesOut_13 ?_
  refine V_istore (pc := 14) X [(4, .int _), (3, .int _), (0, .ref _), (1, .int _), (2, .int _)] dX9_carriesOut_14 (by decide) rfl ?_
  refine V_aload_n (pc := 16) X 2 dX9_carriesOut_16 rfl ?_
  refine V_get (pc := 17) X fl_X9_7 dX9_carriesOut_17 mp.k (mp.f 901) ?_
  refine V_iload_n (pc := 20) X 4 dX9_carriesOut_20 rfl ?_
  refine M_ald (pc := 21) X mp ⟨by unfold isA; decide, by decide⟩ (by show _ < 1401; omega) dX9_carriesOut_21 ?_
  rw [so.2.1]
  refine V_iconst (pc := 22) (v := 1) X dX9_carriesOut_22 (by decide) ?_
  show V _ _ _ _ _ _ (Value.int (nI 1) :: _)
  refine V_icmp_ne (pc := 23) X 111 dX9_carriesOut_23 (by decide) (fun c23 => ?_) (fun c23 => ?_)
  · have k23 : ¬ o.1 = 1 := fun y => c23 (by rw [y])
    refine V_aload_n (pc := 111) X 2 dX9_carriesOut_111 rfl ?_
    refine V_get (pc := 112) X fl_X9_7 dX9_carriesOut_112 mp.k (mp.f 901) ?_
    refine V_iload_n (pc := 115) X 4 dX9_carriesOut_115 rfl ?_
    refine M_ald (pc := 116) X mp ⟨by unfold isA; decide, by decide⟩ (by show _ < 1401; omega) dX9_carriesOut_116 ?_
    rw [so.2.1]
    refine V_iconst (pc := 117) (v := 2) X dX9_carriesOut_117 (by decide) ?_
    show V _ _ _ _ _ _ (Value.int (nI 2) :: _)
    refine V_icmp_ne (pc := 118) X 164 dX9_carriesOut_118 (by decide) (fun c118 => ?_) (fun c118 => ?_)
    · have k118 : ¬ o.1 = 2 := fun y => c118 (by rw [y])
      have k0 : o.1 = 0 := by omega
      refine V_vret (pc := 164) X Q rfl dX9_carriesOut_164 ?_
      first
      | (refine ⟨rfl, F, mp, gm, KT.refl F t, ?_⟩
         rw [ap_0 k0]
         exact ⟨t1, t2, t3⟩)
      | (refine ⟨rfl, _, mp107, gm107, ⟨fun x y hxy => ?_, fun x y h1 h2 hy => ?_, fun y hy => ?_⟩, hl, ?_, fun j x hj => ?_⟩
         · rw [fu_i (by omega), fu_i (by omega), fu_i (by omega), fu_i (by omega)]
           exact r1 x y (by omega)
         · rw [fu_i (by omega), fu_j (by omega), fu_j (by omega), fu_j (by omega), r2 x y h1 h2, if_neg (by omega)]
         · rw [fu_j hy, fu_i (by decide), fu_i (by decide), fu_i (by decide)]
           exact r1 909 y (by decide)
         · rw [fu_s, hl1]
         · rw [ap_1 k23 hp, ins_at hp] at hj
           have hjl : j < xs.length + 1 := by
             by_cases u : j < xs.length + 1
             · exact u
             · rw [if_neg (by omega), if_neg (by omega), List.getElem?_eq_none (by omega)] at hj
               exact absurd hj (by simp)
           by_cases e1 : j < o.2.1
           · rw [if_pos e1] at hj
             obtain ⟨a, b, c⟩ := t3 j x hj
             refine ⟨?_, ?_, ?_⟩
             · rw [fu_i (by decide), fu_i (by decide), fu_i (by decide), fu_j (by omega), r2 906 _ (by decide) (by decide), if_neg (by omega)]; exact a
             · rw [fu_i (by decide), fu_i (by decide), fu_j (by omega), fu_i (by decide), r2 907 _ (by decide) (by decide), if_neg (by omega)]; exact b
             · rw [fu_i (by decide), fu_j (by omega), fu_i (by decide), fu_i (by decide), r2 908 _ (by decide) (by decide), if_neg (by omega)]; exact c
           · rw [if_neg e1] at hj
             by_cases e2 : j = o.2.1
             · rw [if_pos e2] at hj
               have ex : o.2.2.1 = x := Option.some.inj hj
               subst e2
               rw [← ex]
               refine ⟨?_, ?_, ?_⟩
               · rw [fu_i (by decide), fu_i (by decide), fu_i (by decide), fu_s]
               · rw [fu_i (by decide), fu_i (by decide), fu_s]
               · rw [fu_i (by decide), fu_s, hw k23]
             · rw [if_neg e2] at hj
               obtain ⟨a, b, c⟩ := t3 (j - 1) x hj
               rw [show 201 * t + (j - 1) = 201 * t + j - 1 by omega] at a b c
               refine ⟨?_, ?_, ?_⟩
               · rw [fu_i (by decide), fu_i (by decide), fu_i (by decide), fu_j (by omega), r2 906 _ (by decide) (by decide), if_pos (by omega)]; exact a
               · rw [fu_i (by decide), fu_i (by decide), fu_j (by omega), fu_i (by decide), r2 907 _ (by decide) (by decide), if_pos (by omega)]; exact b
               · rw [fu_i (by decide), fu_j (by omega), fu_i (by decide), fu_i (by decide), r2 908 _ (by decide) (by decide), if_pos (by omega)]; exact c)
      | (refine ⟨rfl, Fz, mpr, gmr, ⟨fun x y hxy => ?_, fun x y h1 h2 hy => ?_, fun y hy => ?_⟩, hl, ?_, fun j x hj => ?_⟩
         · rw [r1 x y (by omega), fu_i (by omega)]
         · rw [r2 x y h1 h2, if_neg (by omega)]
         · rw [r1 909 y (by decide), fu_j hy]
         · rw [r1 909 t (by decide), fu_s, hl2]
         · rw [ap_2 k118 hpl, del_at hpl] at hj
           by_cases e1 : j < o.2.1
           · rw [if_pos e1] at hj
             obtain ⟨a, b, c⟩ := t3 j x hj
             refine ⟨?_, ?_, ?_⟩
             · rw [r2 906 _ (by decide) (by decide), if_neg (by omega)]; exact a
             · rw [r2 907 _ (by decide) (by decide), if_neg (by omega)]; exact b
             · rw [r2 908 _ (by decide) (by decide), if_neg (by omega)]; exact c
           · rw [if_neg e1] at hj
             have hjl := (List.getElem?_eq_some_iff.mp hj).1
             obtain ⟨a, b, c⟩ := t3 (j + 1) x hj
             rw [show 201 * t + (j + 1) = 201 * t + j + 1 by omega] at a b c
             refine ⟨?_, ?_, ?_⟩
             · rw [r2 906 _ (by decide) (by decide), if_pos (by omega)]; exact a
             · rw [r2 907 _ (by decide) (by decide), if_pos (by omega)]; exact b
             · rw [r2 908 _ (by decide) (by decide), if_pos (by omega)]; exact c)
    · have k118 : o.1 = 2 := (nI_eq (by omega) (by decide)).mp c118
      rw [so.2.2.1 (by omega), nI_add]
      have hpl : o.2.1 < xs.length := by unfold vO at v; omega
      have hl2 := al_2 k118 hpl
      refine V_aload_n (pc := 121) X 2 dX9_carriesOut_121 rfl ?_
      refine V_get (pc := 122) X fl_X9_34 dX9_carriesOut_122 mp.k (mp.f 909) ?_
      refine V_iload_n (pc := 125) X 3 dX9_carriesOut_125 rfl ?_
      refine V_dup2 (pc := 126) X dX9_carriesOut_126 rfl rfl ?_
      refine M_ald (pc := 127) X mp ⟨by unfold isA; decide, by decide⟩ (by show _ < 3; omega) dX9_carriesOut_127 ?_
      rw [t2]
      refine V_iconst (pc := 128) (v := 1) X dX9_carriesOut_128 (by decide) ?_
      show V _ _ _ _ _ _ (Value.int (nI 1) :: _)
      refine V_isub (pc := 129) X dX9_carriesOut_129 ?_
      rw [pk_sub (by omega)]
      refine M_ast (pc := 130) X mp ⟨by unfold isA; decide, by decide⟩ (by show _ < 3; omega) dX9_carriesOut_130 (fun h130 mp130 fm130 => ?_)
      have gm130 := gm.seq fm130
      refine V_iload (pc := 131) X 0 dX9_carriesOut_131 rfl ?_
      refine V_istore (pc := 133) X [(5, .int _), (4, .int _), (3, .int _), (0, .ref _), (1, .int _), (2, .int _)] dX9_carriesOut_133 (by decide) rfl ?_
      have key : ∀ (n k : Nat), 201 * t + xs.length - k < n → 201 * t + o.2.1 ≤ k → k ≤ 201 * t + xs.length - 1 → ∀ (hr : AH) (Fz : MS'), MP hr q A Fz → FM h hr → (∀ x y, ¬ (906 ≤ x ∧ x ≤ 908) → Fz x y = fu F 909 t (nI (xs.length - 1)) x y) → (∀ x y, 906 ≤ x → x ≤ 908 → Fz x y = if 201 * t + o.2.1 ≤ y ∧ y < k then F x (y + 1) else F x y) → V E Γ 0 hr 135 [(5, .int (nI k)), (3, .int (nI (201 * t))), (0, .ref q), (1, .int (nI t)), (2, .int (nI i))] [] := by
        intro n
        induction n with
        | zero => exact fun k hn => absurd hn (Nat.not_lt_zero _)
        | succ n ih =>
          intro k hn hk1 hk2 hr Fz mpr gmr r1 r2
          refine V_iload (pc := 135) X 0 dX9_carriesOut_135 rfl ?_
          refine V_iload_n (pc := 137) X 1 dX9_carriesOut_137 rfl ?_
          refine V_aload_n (pc := 138) X 2 dX9_carriesOut_138 rfl ?_
          refine V_get (pc := 139) X fl_X9_34 dX9_carriesOut_139 mpr.k (mpr.f 909) ?_
          refine V_iload_n (pc := 142) X 3 dX9_carriesOut_142 rfl ?_
          refine M_ald (pc := 143) X mpr ⟨by unfold isA; decide, by decide⟩ (by show _ < 3; omega) dX9_carriesOut_143 ?_
          rw [show Fz 909 t = nI (xs.length - 1) from (r1 _ _ (by decide)).trans fu_s]
          refine V_iadd (pc := 144) X dX9_carriesOut_144 ?_
          rw [nI_add]
          refine V_icmp_ge (pc := 145) X 164 dX9_carriesOut_145 (by decide) (fun c145 => ?_) (fun c145 => ?_)
          · have hie : k = 201 * t + xs.length - 1 := by have := (nI_leI (by omega) (by omega)).mp c145; omega
            refine V_vret (pc := 164) X Q rfl dX9_carriesOut_164 ?_
            first
            | (refine ⟨rfl, F, mp, gm, KT.refl F t, ?_⟩
               rw [ap_0 k0]
               exact ⟨t1, t2, t3⟩)
            | (refine ⟨rfl, _, mp107, gm107, ⟨fun x y hxy => ?_, fun x y h1 h2 hy => ?_, fun y hy => ?_⟩, hl, ?_, fun j x hj => ?_⟩
               · rw [fu_i (by omega), fu_i (by omega), fu_i (by omega), fu_i (by omega)]
                 exact r1 x y (by omega)
               · rw [fu_i (by omega), fu_j (by omega), fu_j (by omega), fu_j (by omega), r2 x y h1 h2, if_neg (by omega)]
               · rw [fu_j hy, fu_i (by decide), fu_i (by decide), fu_i (by decide)]
                 exact r1 909 y (by decide)
               · rw [fu_s, hl1]
               · rw [ap_1 k23 hp, ins_at hp] at hj
                 have hjl : j < xs.length + 1 := by
                   by_cases u : j < xs.length + 1
                   · exact u
                   · rw [if_neg (by omega), if_neg (by omega), List.getElem?_eq_none (by omega)] at hj
                     exact absurd hj (by simp)
                 by_cases e1 : j < o.2.1
                 · rw [if_pos e1] at hj
                   obtain ⟨a, b, c⟩ := t3 j x hj
                   refine ⟨?_, ?_, ?_⟩
                   · rw [fu_i (by decide), fu_i (by decide), fu_i (by decide), fu_j (by omega), r2 906 _ (by decide) (by decide), if_neg (by omega)]; exact a
                   · rw [fu_i (by decide), fu_i (by decide), fu_j (by omega), fu_i (by decide), r2 907 _ (by decide) (by decide), if_neg (by omega)]; exact b
                   · rw [fu_i (by decide), fu_j (by omega), fu_i (by decide), fu_i (by decide), r2 908 _ (by decide) (by decide), if_neg (by omega)]; exact c
                 · rw [if_neg e1] at hj
                   by_cases e2 : j = o.2.1
                   · rw [if_pos e2] at hj
                     have ex : o.2.2.1 = x := Option.some.inj hj
                     subst e2
                     rw [← ex]
                     refine ⟨?_, ?_, ?_⟩
                     · rw [fu_i (by decide), fu_i (by decide), fu_i (by decide), fu_s]
                     · rw [fu_i (by decide), fu_i (by decide), fu_s]
                     · rw [fu_i (by decide), fu_s, hw k23]
                   · rw [if_neg e2] at hj
                     obtain ⟨a, b, c⟩ := t3 (j - 1) x hj
                     rw [show 201 * t + (j - 1) = 201 * t + j - 1 by omega] at a b c
                     refine ⟨?_, ?_, ?_⟩
                     · rw [fu_i (by decide), fu_i (by decide), fu_i (by decide), fu_j (by omega), r2 906 _ (by decide) (by decide), if_pos (by omega)]; exact a
                     · rw [fu_i (by decide), fu_i (by decide), fu_j (by omega), fu_i (by decide), r2 907 _ (by decide) (by decide), if_pos (by omega)]; exact b
                     · rw [fu_i (by decide), fu_j (by omega), fu_i (by decide), fu_i (by decide), r2 908 _ (by decide) (by decide), if_pos (by omega)]; exact c)
            | (refine ⟨rfl, Fz, mpr, gmr, ⟨fun x y hxy => ?_, fun x y h1 h2 hy => ?_, fun y hy => ?_⟩, hl, ?_, fun j x hj => ?_⟩
               · rw [r1 x y (by omega), fu_i (by omega)]
               · rw [r2 x y h1 h2, if_neg (by omega)]
               · rw [r1 909 y (by decide), fu_j hy]
               · rw [r1 909 t (by decide), fu_s, hl2]
               · rw [ap_2 k118 hpl, del_at hpl] at hj
                 by_cases e1 : j < o.2.1
                 · rw [if_pos e1] at hj
                   obtain ⟨a, b, c⟩ := t3 j x hj
                   refine ⟨?_, ?_, ?_⟩
                   · rw [r2 906 _ (by decide) (by decide), if_neg (by omega)]; exact a
                   · rw [r2 907 _ (by decide) (by decide), if_neg (by omega)]; exact b
                   · rw [r2 908 _ (by decide) (by decide), if_neg (by omega)]; exact c
                 · rw [if_neg e1] at hj
                   have hjl := (List.getElem?_eq_some_iff.mp hj).1
                   obtain ⟨a, b, c⟩ := t3 (j + 1) x hj
                   rw [show 201 * t + (j + 1) = 201 * t + j + 1 by omega] at a b c
                   refine ⟨?_, ?_, ?_⟩
                   · rw [r2 906 _ (by decide) (by decide), if_pos (by omega)]; exact a
                   · rw [r2 907 _ (by decide) (by decide), if_pos (by omega)]; exact b
                   · rw [r2 908 _ (by decide) (by decide), if_pos (by omega)]; exact c)
          · have hlt : k < 201 * t + xs.length - 1 := by
              rcases Nat.lt_or_ge k (201 * t + (xs.length - 1)) with y | y
              · omega
              · exact absurd (nI_le y (by omega)) c145
            refine V_aload_n (pc := 148) X 2 dX9_carriesOut_148 rfl ?_
            refine V_iload (pc := 149) X 0 dX9_carriesOut_149 rfl ?_
            refine V_iload (pc := 151) X 0 dX9_carriesOut_151 rfl ?_
            refine V_iconst (pc := 153) (v := 1) X dX9_carriesOut_153 (by decide) ?_
            show V _ _ _ _ _ _ (Value.int (nI 1) :: _)
            refine V_iadd (pc := 154) X dX9_carriesOut_154 ?_
            rw [nI_add]
            refine V_callV (pc := 155) X clk9 (by decide) mpr.k _ (m_shifts mpr (i := k) (j := k + 1) (by omega) (by omega)) cw_X9_104 (Q.room (by decide) (by decide)) rfl (Nat.le_of_ble_eq_true rfl) rfl (by omega) dX9_carriesOut_155 (fun _ _ z => z.elim) ?_
            rintro v155 h155 ⟨rfl, Fy, mpy, gmy, y1, y2⟩
            simp only [Option.toList_none, List.nil_append]
            refine V_inc1 (pc := 158) X 0 [(5, .int _), (3, .int _), (0, .ref _), (1, .int _), (2, .int _)] dX9_carriesOut_158 rfl (by decide) rfl ?_
            rw [nI_1]
            refine V_goto (pc := 161) X 135 dX9_carriesOut_161 (by decide) ?_
            refine ih (k + 1) (by omega) (by omega) (by omega) _ Fy mpy (gmr.seq gmy) (fun x y hxy => (y1 x y hxy).trans (r1 x y hxy)) (fun x y hx1 hx2 => ?_)
            rw [y2 x y hx1 hx2]
            by_cases e : y = k
            · rw [if_pos e, r2 x _ hx1 hx2, if_neg (by omega), if_pos (by omega), e]
            · rw [if_neg e, r2 x y hx1 hx2]
              by_cases e2 : 201 * t + o.2.1 ≤ y ∧ y < k
              · rw [if_pos e2, if_pos (by omega)]
              · rw [if_neg e2, if_neg (by omega)]
      refine V.sub [0, 2, 3, 4, 5] rfl ?_
      exact key (xs.length + 1) _ (by omega) (Nat.le_refl _) (by omega) _ _ mp130 gm130 (fun _ _ _ => rfl) (fun x y h1 h2 => by rw [if_neg (by omega), fu_i (by omega)])
  · have k23 : o.1 = 1 := (nI_eq (by omega) (by decide)).mp c23
    rw [so.2.2.1 (by omega), nI_add]
    have hl1 := al_1 k23 hp
    obtain ⟨s1, s2⟩ := so.2.2.2.1 k23
    refine V_iload_n (pc := 26) X 1 dX9_carriesOut_26 rfl ?_
    refine V_aload_n (pc := 27) X 2 dX9_carriesOut_27 rfl ?_
    refine V_get (pc := 28) X fl_X9_34 dX9_carriesOut_28 mp.k (mp.f 909) ?_
    refine V_iload_n (pc := 31) X 3 dX9_carriesOut_31 rfl ?_
    refine M_ald (pc := 32) X mp ⟨by unfold isA; decide, by decide⟩ (by show _ < 3; omega) dX9_carriesOut_32 ?_
    rw [t2]
    refine V_iadd (pc := 33) X dX9_carriesOut_33 ?_
    rw [nI_add]
    refine V_istore (pc := 34) X [(5, .int _), (4, .int _), (3, .int _), (0, .ref _), (1, .int _), (2, .int _)] dX9_carriesOut_34 (by decide) rfl ?_
    have key : ∀ (n k : Nat), k - (201 * t + o.2.1) < n → 201 * t + o.2.1 ≤ k → k ≤ 201 * t + xs.length → ∀ (hr : AH) (Fz : MS'), MP hr q A Fz → FM h hr → (∀ x y, ¬ (906 ≤ x ∧ x ≤ 908) → Fz x y = F x y) → (∀ x y, 906 ≤ x → x ≤ 908 → Fz x y = if k < y ∧ y ≤ 201 * t + xs.length then F x (y - 1) else F x y) → V E Γ 0 hr 36 [(5, .int (nI k)), (4, .int (nI (201 * t + o.2.1))), (3, .int (nI (201 * t))), (0, .ref q), (1, .int (nI t)), (2, .int (nI i))] [] := by
      intro n
      induction n with
      | zero => exact fun k hn => absurd hn (Nat.not_lt_zero _)
      | succ n ih =>
        intro k hn hk1 hk2 hr Fz mpr gmr r1 r2
        refine V_iload (pc := 36) X 0 dX9_carriesOut_36 rfl ?_
        refine V_iload (pc := 38) X 1 dX9_carriesOut_38 rfl ?_
        refine V_icmp_le (pc := 40) X 59 dX9_carriesOut_40 (by decide) (fun c40 => ?_) (fun c40 => ?_)
        · have hie : k = 201 * t + o.2.1 := by have := (nI_leI (by omega) (by omega)).mp c40; omega
          refine V_aload_n (pc := 59) X 3 dX9_carriesOut_59 rfl ?_
          refine V_get (pc := 60) X fl_X9_25 dX9_carriesOut_60 mpr.k (mpr.f 906) ?_
          refine V_iload (pc := 63) X 1 dX9_carriesOut_63 rfl ?_
          refine V_aload_n (pc := 65) X 3 dX9_carriesOut_65 rfl ?_
          refine V_get (pc := 66) X fl_X9_16 dX9_carriesOut_66 mpr.k (mpr.f 903) ?_
          refine V_iload_n (pc := 69) X 5 dX9_carriesOut_69 rfl ?_
          refine M_ald (pc := 70) X mpr ⟨by unfold isA; decide, by decide⟩ (by show _ < 1401; omega) dX9_carriesOut_70 ?_
          rw [show Fz 903 i = F 903 i from r1 _ _ (by decide), s1]
          refine M_ast (pc := 71) X mpr ⟨by unfold isA; decide, by decide⟩ (by show _ < 603; omega) dX9_carriesOut_71 (fun h71 mp71 fm71 => ?_)
          have gm71 := gmr.seq fm71
          refine V_aload_n (pc := 72) X 3 dX9_carriesOut_72 rfl ?_
          refine V_get (pc := 73) X fl_X9_28 dX9_carriesOut_73 mp71.k (mp71.f 907) ?_
          refine V_iload (pc := 76) X 1 dX9_carriesOut_76 rfl ?_
          refine V_aload_n (pc := 78) X 3 dX9_carriesOut_78 rfl ?_
          refine V_get (pc := 79) X fl_X9_19 dX9_carriesOut_79 mp71.k (mp71.f 904) ?_
          refine V_iload_n (pc := 82) X 5 dX9_carriesOut_82 rfl ?_
          refine M_ald (pc := 83) X mp71 ⟨by unfold isA; decide, by decide⟩ (by show _ < 1401; omega) dX9_carriesOut_83 ?_
          rw [show fu Fz 906 _ _ 904 i = Fz 904 i from fu_i (by decide), show Fz 904 i = F 904 i from r1 _ _ (by decide), s2]
          refine M_ast (pc := 84) X mp71 ⟨by unfold isA; decide, by decide⟩ (by show _ < 603; omega) dX9_carriesOut_84 (fun h84 mp84 fm84 => ?_)
          have gm84 := gm71.seq fm84
          refine V_aload_n (pc := 85) X 3 dX9_carriesOut_85 rfl ?_
          refine V_get (pc := 86) X fl_X9_31 dX9_carriesOut_86 mp84.k (mp84.f 908) ?_
          refine V_iload (pc := 89) X 1 dX9_carriesOut_89 rfl ?_
          refine V_aload_n (pc := 91) X 3 dX9_carriesOut_91 rfl ?_
          refine V_get (pc := 92) X fl_X9_22 dX9_carriesOut_92 mp84.k (mp84.f 905) ?_
          refine V_iload_n (pc := 95) X 5 dX9_carriesOut_95 rfl ?_
          refine M_ald (pc := 96) X mp84 ⟨by unfold isA; decide, by decide⟩ (by show _ < 1401; omega) dX9_carriesOut_96 ?_
          rw [show fu (fu Fz 906 _ _) 907 _ _ 905 i = Fz 905 i from (fu_i (by decide)).trans (fu_i (by decide)), show Fz 905 i = F 905 i from r1 _ _ (by decide), so.2.2.2.2]
          refine M_ast (pc := 97) X mp84 ⟨by unfold isA; decide, by decide⟩ (by show _ < 603; omega) dX9_carriesOut_97 (fun h97 mp97 fm97 => ?_)
          have gm97 := gm84.seq fm97
          refine V_aload_n (pc := 98) X 3 dX9_carriesOut_98 rfl ?_
          refine V_get (pc := 99) X fl_X9_34 dX9_carriesOut_99 mp97.k (mp97.f 909) ?_
          refine V_iload_n (pc := 102) X 4 dX9_carriesOut_102 rfl ?_
          refine V_dup2 (pc := 103) X dX9_carriesOut_103 rfl rfl ?_
          refine M_ald (pc := 104) X mp97 ⟨by unfold isA; decide, by decide⟩ (by show _ < 3; omega) dX9_carriesOut_104 ?_
          rw [show fu (fu (fu Fz 906 _ _) 907 _ _) 908 _ _ 909 t = Fz 909 t from (fu_i (by decide)).trans ((fu_i (by decide)).trans (fu_i (by decide))), show Fz 909 t = F 909 t from r1 _ _ (by decide), t2]
          refine V_iconst (pc := 105) (v := 1) X dX9_carriesOut_105 (by decide) ?_
          show V _ _ _ _ _ _ (Value.int (nI 1) :: _)
          refine V_iadd (pc := 106) X dX9_carriesOut_106 ?_
          rw [nI_add]
          refine M_ast (pc := 107) X mp97 ⟨by unfold isA; decide, by decide⟩ (by show _ < 3; omega) dX9_carriesOut_107 (fun h107 mp107 fm107 => ?_)
          have gm107 := gm97.seq fm107
          refine V_goto (pc := 108) X 164 dX9_carriesOut_108 (by decide) ?_
          refine V_vret (pc := 164) X Q rfl dX9_carriesOut_164 ?_
          first
          | (refine ⟨rfl, F, mp, gm, KT.refl F t, ?_⟩
             rw [ap_0 k0]
             exact ⟨t1, t2, t3⟩)
          | (refine ⟨rfl, _, mp107, gm107, ⟨fun x y hxy => ?_, fun x y h1 h2 hy => ?_, fun y hy => ?_⟩, hl, ?_, fun j x hj => ?_⟩
             · rw [fu_i (by omega), fu_i (by omega), fu_i (by omega), fu_i (by omega)]
               exact r1 x y (by omega)
             · rw [fu_i (by omega), fu_j (by omega), fu_j (by omega), fu_j (by omega), r2 x y h1 h2, if_neg (by omega)]
             · rw [fu_j hy, fu_i (by decide), fu_i (by decide), fu_i (by decide)]
               exact r1 909 y (by decide)
             · rw [fu_s, hl1]
             · rw [ap_1 k23 hp, ins_at hp] at hj
               have hjl : j < xs.length + 1 := by
                 by_cases u : j < xs.length + 1
                 · exact u
                 · rw [if_neg (by omega), if_neg (by omega), List.getElem?_eq_none (by omega)] at hj
                   exact absurd hj (by simp)
               by_cases e1 : j < o.2.1
               · rw [if_pos e1] at hj
                 obtain ⟨a, b, c⟩ := t3 j x hj
                 refine ⟨?_, ?_, ?_⟩
                 · rw [fu_i (by decide), fu_i (by decide), fu_i (by decide), fu_j (by omega), r2 906 _ (by decide) (by decide), if_neg (by omega)]; exact a
                 · rw [fu_i (by decide), fu_i (by decide), fu_j (by omega), fu_i (by decide), r2 907 _ (by decide) (by decide), if_neg (by omega)]; exact b
                 · rw [fu_i (by decide), fu_j (by omega), fu_i (by decide), fu_i (by decide), r2 908 _ (by decide) (by decide), if_neg (by omega)]; exact c
               · rw [if_neg e1] at hj
                 by_cases e2 : j = o.2.1
                 · rw [if_pos e2] at hj
                   have ex : o.2.2.1 = x := Option.some.inj hj
                   subst e2
                   rw [← ex]
                   refine ⟨?_, ?_, ?_⟩
                   · rw [fu_i (by decide), fu_i (by decide), fu_i (by decide), fu_s]
                   · rw [fu_i (by decide), fu_i (by decide), fu_s]
                   · rw [fu_i (by decide), fu_s, hw k23]
                 · rw [if_neg e2] at hj
                   obtain ⟨a, b, c⟩ := t3 (j - 1) x hj
                   rw [show 201 * t + (j - 1) = 201 * t + j - 1 by omega] at a b c
                   refine ⟨?_, ?_, ?_⟩
                   · rw [fu_i (by decide), fu_i (by decide), fu_i (by decide), fu_j (by omega), r2 906 _ (by decide) (by decide), if_pos (by omega)]; exact a
                   · rw [fu_i (by decide), fu_i (by decide), fu_j (by omega), fu_i (by decide), r2 907 _ (by decide) (by decide), if_pos (by omega)]; exact b
                   · rw [fu_i (by decide), fu_j (by omega), fu_i (by decide), fu_i (by decide), r2 908 _ (by decide) (by decide), if_pos (by omega)]; exact c)
          | (refine ⟨rfl, Fz, mpr, gmr, ⟨fun x y hxy => ?_, fun x y h1 h2 hy => ?_, fun y hy => ?_⟩, hl, ?_, fun j x hj => ?_⟩
             · rw [r1 x y (by omega), fu_i (by omega)]
             · rw [r2 x y h1 h2, if_neg (by omega)]
             · rw [r1 909 y (by decide), fu_j hy]
             · rw [r1 909 t (by decide), fu_s, hl2]
             · rw [ap_2 k118 hpl, del_at hpl] at hj
               by_cases e1 : j < o.2.1
               · rw [if_pos e1] at hj
                 obtain ⟨a, b, c⟩ := t3 j x hj
                 refine ⟨?_, ?_, ?_⟩
                 · rw [r2 906 _ (by decide) (by decide), if_neg (by omega)]; exact a
                 · rw [r2 907 _ (by decide) (by decide), if_neg (by omega)]; exact b
                 · rw [r2 908 _ (by decide) (by decide), if_neg (by omega)]; exact c
               · rw [if_neg e1] at hj
                 have hjl := (List.getElem?_eq_some_iff.mp hj).1
                 obtain ⟨a, b, c⟩ := t3 (j + 1) x hj
                 rw [show 201 * t + (j + 1) = 201 * t + j + 1 by omega] at a b c
                 refine ⟨?_, ?_, ?_⟩
                 · rw [r2 906 _ (by decide) (by decide), if_pos (by omega)]; exact a
                 · rw [r2 907 _ (by decide) (by decide), if_pos (by omega)]; exact b
                 · rw [r2 908 _ (by decide) (by decide), if_pos (by omega)]; exact c)
        · have hlt : 201 * t + o.2.1 < k := by
            rcases Nat.lt_or_ge (201 * t + o.2.1) k with y | y
            · exact y
            · exact absurd (nI_le y (by omega)) c40
          refine V_aload_n (pc := 43) X 3 dX9_carriesOut_43 rfl ?_
          refine V_iload (pc := 44) X 0 dX9_carriesOut_44 rfl ?_
          refine V_iload (pc := 46) X 0 dX9_carriesOut_46 rfl ?_
          refine V_iconst (pc := 48) (v := 1) X dX9_carriesOut_48 (by decide) ?_
          show V _ _ _ _ _ _ (Value.int (nI 1) :: _)
          refine V_isub (pc := 49) X dX9_carriesOut_49 ?_
          rw [pk_sub (by omega)]
          refine V_callV (pc := 50) X clk9 (by decide) mpr.k _ (m_shifts mpr (i := k) (j := k - 1) (by omega) (by omega)) cw_X9_104 (Q.room (by decide) (by decide)) rfl (Nat.le_of_ble_eq_true rfl) rfl (by omega) dX9_carriesOut_50 (fun _ _ z => z.elim) ?_
          rintro v50 h50 ⟨rfl, Fy, mpy, gmy, y1, y2⟩
          simp only [Option.toList_none, List.nil_append]
          refine V_dec1 (pc := 53) X 0 [(5, .int _), (4, .int _), (3, .int _), (0, .ref _), (1, .int _), (2, .int _)] dX9_carriesOut_53 rfl (by decide) rfl ?_
          rw [show nI k + (-1) = nI k - 1 from (Int32.sub_eq_add_neg (nI k) 1).symm, nI_m1 (by omega)]
          refine V_goto (pc := 56) X 36 dX9_carriesOut_56 (by decide) ?_
          refine ih (k - 1) (by omega) (by omega) (by omega) _ Fy mpy (gmr.seq gmy) (fun x y hxy => (y1 x y hxy).trans (r1 x y hxy)) (fun x y hx1 hx2 => ?_)
          rw [y2 x y hx1 hx2]
          by_cases e : y = k
          · rw [if_pos e, r2 x _ hx1 hx2, if_neg (by omega), if_pos (by omega), e]
          · rw [if_neg e, r2 x y hx1 hx2]
            by_cases e2 : k < y ∧ y ≤ 201 * t + xs.length
            · rw [if_pos e2, if_pos (by omega)]
            · rw [if_neg e2, if_neg (by omega)]
    exact key (xs.length + 1) _ (by omega) (by omega) (Nat.le_refl _) _ F mp gm (fun _ _ _ => rfl) (fun x y _ _ => by rw [if_neg (by omega)])
