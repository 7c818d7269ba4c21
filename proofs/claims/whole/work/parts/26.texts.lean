theorem apO_mem {o : SO} {xs : List Nat} {x : Nat} (h : x ∈ apO o xs) : x ∈ xs ∨ (o.1 = 1 ∧ x = o.2.2.1) := by
  unfold apO at h
  split at h
  · next z =>
    rcases List.mem_append.mp h with w | w
    · exact Or.inl (List.mem_of_mem_take w)
    · rcases List.mem_cons.mp w with w | w
      · exact Or.inr ⟨z.1, w⟩
      · exact Or.inl (List.mem_of_mem_drop w)
  · split at h
    · rcases List.mem_append.mp h with w | w
      · exact Or.inl (List.mem_of_mem_take w)
      · exact Or.inl (List.mem_of_mem_drop w)
    · exact Or.inl h
theorem drop_at {α : Type} {O : List α} {i : Nat} {o : α} (h : O[i]? = some o) : O.drop i = o :: O.drop (i + 1) := by
  obtain ⟨h1, h2⟩ := List.getElem?_eq_some_iff.mp h
  rw [← h2]
  exact List.drop_eq_getElem_cons h1
def fnd : List Nat → Nat → Nat → Option Nat
  | [], _, _ => none
  | y :: ys, x, i => if y = x then some i else fnd ys x (i + 1)
def oI : Option Nat → Int32
  | none => -1
  | some i => nI i
/-- whether the letters at two places look the same -/
def mt (tb : Nat → Nat × Nat) (xs ys : List Nat) (p q : Nat) : Bool := match xs[p]?, ys[q]? with
  | some x, some y => decide ((tb x).1 = (tb y).1)
  | _, _ => false
def lks (tb : Nat → Nat × Nat) (xs ys : List Nat) : Bool := decide (xs.map (fun x => (tb x).1) = ys.map (fun x => (tb x).1))
def cow (tb : Nat → Nat × Nat) (g : Nat) : List Nat → Nat
  | [] => 0
  | x :: xs => (if (tb x).2 = g then 1 else 0) + cow tb g xs
def num (tb : Nat → Nat × Nat) : List Nat → Int64 → Int64
  | [], a => a
  | x :: xs, a => num tb xs (a * 31 + lN (tb x).1)
theorem cow_le (tb : Nat → Nat × Nat) (g : Nat) : ∀ xs : List Nat, cow tb g xs ≤ xs.length
  | [] => Nat.le_refl _
  | x :: xs => by
    have := cow_le tb g xs
    show (if (tb x).2 = g then 1 else 0) + cow tb g xs ≤ xs.length + 1
    split <;> omega
theorem c_tcarryAll {E : EV} {la : Nat → Nat} {h : AH} {t tl c rl : Nat} {xs R : List Nat} {O : List SO} (hx : TX la h t tl xs c) (hkr : qK h rl = 11) (hLr : qL h rl = R) (hrt : rl ≠ tl) (hO : OPs la h R O) (hw : ∀ o ∈ O, o.1 ≤ 2 ∧ o.2.1 < 2 ^ 29 ∧ (o.1 = 1 → qK h (la o.2.2.1) = 5)) (hxs : ∀ x ∈ xs, qK h (la x) = 5) (hl : xs.length + O.length < 2 ^ 29) (hc : caS O xs c < 20000) : Ct E yX7_carryOutAll cX7_carryOutAll 3 none 9 (caS O xs c - c) [.ref t, .ref rl] h (fun v h1 => v = none ∧ TX la h1 t tl (apS O xs) (caS O xs c) ∧ Fr (fun b => b = tl) h h1) noX := by
  refine Ct_of RX7 (by decide +kernel) rfl (Nat.le_of_ble_eq_true rfl) (fun Γ X nt Q hin => ?_)
  have hRO := hO.1
  refine V_iconst (pc := 0) (v := 0) X dX7_carryOutAll_0 (by decide) ?_
  refine V_istore_n (pc := 1) X [(2, .int _), (0, .ref _), (1, .ref _)] dX7_carryOutAll_1 rfl (by decide) rfl ?_
  have key : ∀ (n i : Nat), R.length - i < n → i ≤ R.length → ∀ (hr : AH) (ys : List Nat) (d : Nat), TX la hr t tl ys d → Fr (fun b => b = tl) h hr → apS (O.drop i) ys = apS O xs → caS (O.drop i) ys d = caS O xs c → (∀ y ∈ ys, qK h (la y) = 5) → ys.length ≤ xs.length + i → V E Γ (caS O xs c - d) hr 2 [(2, .int (nI i)), (0, .ref t), (1, .ref rl)] [] := by
    intro n
    induction n with
    | zero => exact fun i hn => absurd hn (Nat.not_lt_zero _)
    | succ n ih =>
      intro i hn hi hr ys d hx r1 r2 r3 r4 r5
      have hkr1 := r1.K hkr (by decide)
      have hLr1 : qL hr rl = R := (r1.L (by omega) hrt).trans hLr
      refine V_iload_n (pc := 2) X 0 dX7_carryOutAll_2 rfl ?_
      refine V_aload_n (pc := 3) X 2 dX7_carryOutAll_3 rfl ?_
      refine V_callL (pc := 4) X (Or.inl hkr1) _ (c_size hkr1) cw_X7_16 (Q.room (by decide) (by decide)) rfl (Nat.le_of_ble_eq_true rfl) rfl (by omega) dX7_carryOutAll_4 (fun _ _ z => z.elim) ?_
      rintro v4 h4 ⟨rfl, rfl⟩
      simp only [Option.toList_some, List.cons_append, List.nil_append]
      rw [hLr1]
      refine V_icmp_ge (pc := 7) X 28 dX7_carryOutAll_7 (by decide) (fun c7 => ?_) (fun c7 => ?_)
      · have hie : ¬ i < R.length := fun z => nI_ge z (by omega) c7
        refine V_vret (pc := 28) X Q rfl dX7_carryOutAll_28 ?_
        rw [List.drop_eq_nil_of_le (by omega)] at r2 r3
        have e2 : ys = apS O xs := r2
        have e3 : d = caS O xs c := r3
        exact ⟨rfl, by rw [← e2, ← e3]; exact hx, r1⟩
      · have hlt : i < R.length := by
          rcases Nat.lt_or_ge i (R.length) with z | z
          · exact z
          · exact absurd (nI_le z (by omega)) c7
        obtain ⟨r, o, hr1, ho1, ho⟩ := hO.at hlt
        have hw1 := hw o (List.mem_of_getElem? ho1)
        have htl7 : r ≠ tl := fun z => by have := ho.1; rw [z] at this; have := hx.2.2.1; have := r1.K ho.1 (by decide); rw [z] at this; omega
        have ho2 := ho.fr r1 htl7
        rw [drop_at ho1] at r2 r3
        refine V_aload_n (pc := 10) X 1 dX7_carryOutAll_10 rfl ?_
        refine V_aload_n (pc := 11) X 2 dX7_carryOutAll_11 rfl ?_
        refine V_iload_n (pc := 12) X 0 dX7_carryOutAll_12 rfl ?_
        refine V_callL (pc := 13) X (Or.inl hkr1) _ (c_get (i := i) (x := r) hkr1 (by rw [hLr1]; exact hr1) (by rw [hLr1]; omega)) cw_X7_49 (Q.room (by decide) (by decide)) rfl (Nat.le_of_ble_eq_true rfl) rfl (by omega) dX7_carryOutAll_13 (fun _ _ z => z.elim) ?_
        rintro v13 h13 ⟨rfl, rfl⟩
        simp only [Option.toList_some, List.cons_append, List.nil_append]
        refine V_cast (pc := 16) X clk6 (by decide) ck_X7_21 ho2.1 dX7_carryOutAll_16 ?_
        have hcl : caO o ys d ≤ caS O xs c := by rw [← r3]; exact caS_le _ _ _
        have hcl2 := caO_le o ys d
        refine V_callV (pc := 19) X clk7 (by decide) hx.1 _ (c_tcarry hx ho2 (fun z => r1.K (hw1.2.2 z) (by decide)) (fun y hy => r1.K (r4 y hy) (by decide)) hw1.1 hw1.2.1 (by omega) (by omega)) cw_X7_52 (Q.room (by decide) (by decide)) rfl (Nat.le_of_ble_eq_true rfl) rfl (by omega) dX7_carryOutAll_19 (fun _ _ z => z.elim) ?_
        rintro v19 h19 ⟨rfl, t1, t2⟩
        simp only [Option.toList_none, List.nil_append]
        refine V_inc1 (pc := 22) X 0 [(2, .int _), (0, .ref _), (1, .ref _)] dX7_carryOutAll_22 rfl (by decide) rfl ?_
        rw [nI_1]
        refine V_goto (pc := 25) X 2 dX7_carryOutAll_25 (by decide) ?_
        refine V.less (b' := caS O xs c - caO o ys d) (by omega) ?_
        have hln := apO_len o ys
        exact ih (i + 1) (by omega) (by omega) _ (apO o ys) (caO o ys d) t1 (r1.seq t2) r2 r3 (fun y hy => (apO_mem hy).elim (fun z => r4 y z) (fun z => by rw [z.2]; exact hw1.2.2 z.1)) (by omega)
  exact key (R.length + 1) 0 (by omega) (Nat.zero_le _) _ xs c hx (Fr.refl _ _) rfl rfl hxs (by omega)
theorem c_posOf {E : EV} {la : Nat → Nat} {h : AH} {t tl c x : Nat} {xs : List Nat} (hx : TX la h t tl xs c) (inj : ∀ y ∈ xs, la y = la x → y = x) (hl : xs.length < 2 ^ 29) : Ct E yX7_positionOf cX7_positionOf 3 (some .int) 4 0 [.ref t, .ref (la x)] h (fun v h1 => v = some (.int (oI (fnd xs x 0))) ∧ h1 = h) noX := by
  refine Ct_of RX7 (by decide +kernel) rfl (Nat.le_of_ble_eq_true rfl) (fun Γ X nt Q hin => ?_)
  refine V_iconst (pc := 0) (v := 0) X dX7_positionOf_0 (by decide) ?_
  refine V_istore_n (pc := 1) X [(2, .int _), (0, .ref _), (1, .ref _)] dX7_positionOf_1 rfl (by decide) rfl ?_
  have key : ∀ (n i : Nat), xs.length - i < n → i ≤ xs.length → fnd (xs.drop i) x i = fnd xs x 0 → V E Γ 0 h 2 [(2, .int (nI i)), (0, .ref t), (1, .ref (la x))] [] := by
    intro n
    induction n with
    | zero => exact fun i hn => absurd hn (Nat.not_lt_zero _)
    | succ n ih =>
      intro i hn hi r1
      refine V_iload_n (pc := 2) X 0 dX7_positionOf_2 rfl ?_
      refine V_aload_n (pc := 3) X 1 dX7_positionOf_3 rfl ?_
      refine V_get (pc := 4) X fl_X7_10 dX7_positionOf_4 hx.1 hx.2.1 ?_
      refine V_callL (pc := 7) X (Or.inl hx.2.2.1) _ (c_size hx.2.2.1) cw_X7_16 (Q.room (by decide) (by decide)) rfl (Nat.le_of_ble_eq_true rfl) rfl (by omega) dX7_positionOf_7 (fun _ _ z => z.elim) ?_
      rintro v7 h7 ⟨rfl, rfl⟩
      simp only [Option.toList_some, List.cons_append, List.nil_append]
      rw [hx.len]
      refine V_icmp_ge (pc := 10) X 33 dX7_positionOf_10 (by decide) (fun c10 => ?_) (fun c10 => ?_)
      · have hie : ¬ i < xs.length := fun z => nI_ge z (by omega) c10
        refine V_iconst (pc := 33) (v := (-1)) X dX7_positionOf_33 (by decide) ?_
        refine V_iret (pc := 34) X Q rfl rfl dX7_positionOf_34 ?_
        refine ⟨?_, rfl⟩
        rw [List.drop_eq_nil_of_le (by omega)] at r1
        rw [← r1]
        rfl
      · have hlt : i < xs.length := by
          rcases Nat.lt_or_ge i (xs.length) with z | z
          · exact z
          · exact absurd (nI_le z (by omega)) c10
        obtain ⟨y, hy⟩ : ∃ y, xs[i]? = some y := ⟨_, List.getElem?_eq_getElem hlt⟩
        rw [drop_at hy] at r1
        refine V_aload_n (pc := 13) X 1 dX7_positionOf_13 rfl ?_
        refine V_get (pc := 14) X fl_X7_10 dX7_positionOf_14 hx.1 hx.2.1 ?_
        refine V_iload_n (pc := 17) X 0 dX7_positionOf_17 rfl ?_
        refine V_callL (pc := 18) X (Or.inl hx.2.2.1) _ (c_get (i := i) (x := la y) hx.2.2.1 (hx.get hy) (by rw [hx.len]; omega)) cw_X7_49 (Q.room (by decide) (by decide)) rfl (Nat.le_of_ble_eq_true rfl) rfl (by omega) dX7_positionOf_18 (fun _ _ z => z.elim) ?_
        rintro v18 h18 ⟨rfl, rfl⟩
        simp only [Option.toList_some, List.cons_append, List.nil_append]
        refine V_aload_n (pc := 21) X 2 dX7_positionOf_21 rfl ?_
        refine V_acmp_ne (pc := 22) X 27 dX7_positionOf_22 (by decide) (fun c22 => ?_) (fun c22 => ?_)
        · refine V_inc1 (pc := 27) X 0 [(2, .int _), (0, .ref _), (1, .ref _)] dX7_positionOf_27 rfl (by decide) rfl ?_
          rw [nI_1]
          refine V_goto (pc := 30) X 2 dX7_positionOf_30 (by decide) ?_
          exact ih (i + 1) (by omega) (by omega) (by rw [← r1]; exact (if_neg (fun z => c22 (by rw [z]))).symm)
        · refine V_iload_n (pc := 25) X 0 dX7_positionOf_25 rfl ?_
          refine V_iret (pc := 26) X Q rfl rfl dX7_positionOf_26 ?_
          refine ⟨?_, rfl⟩
          rw [← r1, show fnd (y :: xs.drop (i + 1)) x i = some i from if_pos (inj y (List.mem_of_getElem? hy) c22)]
          rfl
  exact key (xs.length + 1) 0 (by omega) (Nat.zero_le _) rfl
theorem c_countOf {E : EV} {la : Nat → Nat} {tb : Nat → Nat × Nat} {h : AH} {t tl c : Nat} {xs : List Nat} (hx : TX la h t tl xs c) (hT : ∀ x ∈ xs, LT la tb h x) (hl : xs.length < 2 ^ 29) {g : Nat} (hg : g < 2 ^ 29) : Ct E yX7_countOf cX7_countOf 4 (some .int) 4 0 [.ref t, .int (nI g)] h (fun v h1 => v = some (.int (nI (cow tb g xs))) ∧ h1 = h) noX := by
  refine Ct_of RX7 (by decide +kernel) rfl (Nat.le_of_ble_eq_true rfl) (fun Γ X nt Q hin => ?_)
  refine V_iconst (pc := 0) (v := 0) X dX7_countOf_0 (by decide) ?_
  refine V_istore_n (pc := 1) X [(2, .int _), (0, .ref _), (1, .int _)] dX7_countOf_1 rfl (by decide) rfl ?_
  refine V_iconst (pc := 2) (v := 0) X dX7_countOf_2 (by decide) ?_
  refine V_istore_n (pc := 3) X [(3, .int _), (2, .int _), (0, .ref _), (1, .int _)] dX7_countOf_3 rfl (by decide) rfl ?_
  have key : ∀ (n i : Nat), xs.length - i < n → i ≤ xs.length → ∀ s : Nat, s + cow tb g (xs.drop i) = cow tb g xs → V E Γ 0 h 4 [(3, .int (nI i)), (2, .int (nI s)), (0, .ref t), (1, .int (nI g))] [] := by
    intro n
    induction n with
    | zero => exact fun i hn => absurd hn (Nat.not_lt_zero _)
    | succ n ih =>
      intro i hn hi s r1
      refine V_iload_n (pc := 4) X 0 dX7_countOf_4 rfl ?_
      refine V_aload_n (pc := 5) X 2 dX7_countOf_5 rfl ?_
      refine V_get (pc := 6) X fl_X7_10 dX7_countOf_6 hx.1 hx.2.1 ?_
      refine V_callL (pc := 9) X (Or.inl hx.2.2.1) _ (c_size hx.2.2.1) cw_X7_16 (Q.room (by decide) (by decide)) rfl (Nat.le_of_ble_eq_true rfl) rfl (by omega) dX7_countOf_9 (fun _ _ z => z.elim) ?_
      rintro v9 h9 ⟨rfl, rfl⟩
      simp only [Option.toList_some, List.cons_append, List.nil_append]
      rw [hx.len]
      refine V_icmp_ge (pc := 12) X 42 dX7_countOf_12 (by decide) (fun c12 => ?_) (fun c12 => ?_)
      · have hie : ¬ i < xs.length := fun z => nI_ge z (by omega) c12
        refine V_iload_n (pc := 42) X 1 dX7_countOf_42 rfl ?_
        refine V_iret (pc := 43) X Q rfl rfl dX7_countOf_43 ?_
        refine ⟨?_, rfl⟩
        rw [List.drop_eq_nil_of_le (by omega)] at r1
        rw [← r1]
        rfl
      · have hlt : i < xs.length := by
          rcases Nat.lt_or_ge i (xs.length) with z | z
          · exact z
          · exact absurd (nI_le z (by omega)) c12
        obtain ⟨y, hy⟩ : ∃ y, xs[i]? = some y := ⟨_, List.getElem?_eq_getElem hlt⟩
        rw [drop_at hy] at r1
        obtain ⟨l1, l2, l3, l4, l5⟩ := hT y (List.mem_of_getElem? hy)
        have r2 : s + ((if (tb y).2 = g then 1 else 0) + cow tb g (xs.drop (i + 1))) = cow tb g xs := r1
        refine V_aload_n (pc := 15) X 2 dX7_countOf_15 rfl ?_
        refine V_get (pc := 16) X fl_X7_10 dX7_countOf_16 hx.1 hx.2.1 ?_
        refine V_iload_n (pc := 19) X 0 dX7_countOf_19 rfl ?_
        refine V_callL (pc := 20) X (Or.inl hx.2.2.1) _ (c_get (i := i) (x := la y) hx.2.2.1 (hx.get hy) (by rw [hx.len]; omega)) cw_X7_49 (Q.room (by decide) (by decide)) rfl (Nat.le_of_ble_eq_true rfl) rfl (by omega) dX7_countOf_20 (fun _ _ z => z.elim) ?_
        rintro v20 h20 ⟨rfl, rfl⟩
        simp only [Option.toList_some, List.cons_append, List.nil_append]
        refine V_cast (pc := 23) X clk4 (by decide) ck_X7_56 l1 dX7_countOf_23 ?_
        refine V_get (pc := 26) X fl_X7_58 dX7_countOf_26 l1 l3 ?_
        refine V_iload_n (pc := 29) X 3 dX7_countOf_29 rfl ?_
        refine V_icmp_ne (pc := 30) X 36 dX7_countOf_30 (by decide) (fun c30 => ?_) (fun c30 => ?_)
        · have e1 : (tb y).2 ≠ g := fun z => c30 (by rw [z])
          rw [if_neg e1] at r2
          refine V_inc1 (pc := 36) X 0 [(3, .int _), (2, .int _), (0, .ref _), (1, .int _)] dX7_countOf_36 rfl (by decide) rfl ?_
          rw [nI_1]
          refine V_goto (pc := 39) X 4 dX7_countOf_39 (by decide) ?_
          exact ih (i + 1) (by omega) (by omega) s (by omega)
        · have e1 : (tb y).2 = g := (nI_eq (by omega) (by omega)).mp c30
          rw [if_pos e1] at r2
          refine V_inc1 (pc := 33) X 1 [(2, .int _), (3, .int _), (0, .ref _), (1, .int _)] dX7_countOf_33 rfl (by decide) rfl ?_
          rw [nI_1]
          refine V_inc1 (pc := 36) X 1 [(3, .int _), (2, .int _), (0, .ref _), (1, .int _)] dX7_countOf_36 rfl (by decide) rfl ?_
          rw [nI_1]
          refine V_goto (pc := 39) X 4 dX7_countOf_39 (by decide) ?_
          refine V.sub [0, 1, 2, 3] rfl ?_
          exact ih (i + 1) (by omega) (by omega) (s + 1) (by omega)
  exact key (xs.length + 1) 0 (by omega) (Nat.zero_le _) 0 (Nat.zero_add _)
theorem c_matches {E : EV} {la : Nat → Nat} {tb : Nat → Nat × Nat} {h : AH} {t tl c u ul d : Nat} {xs ys : List Nat} (hx : TX la h t tl xs c) (hy : TX la h u ul ys d) (hT : ∀ x ∈ xs, LT la tb h x) (hU : ∀ x ∈ ys, LT la tb h x) (hl : xs.length < 2 ^ 29) (hm : ys.length < 2 ^ 29) {p q : Nat} (hp : p < 2 ^ 29) (hq : q < 2 ^ 29) : Ct E yX7_matches cX7_matches 4 (some .boolean) 4 0 [.ref t, .int (nI p), .ref u, .int (nI q)] h (fun v h1 => v = some (.int (if mt tb xs ys p q then 1 else 0)) ∧ h1 = h) noX := by
  refine Ct_of RX7 (by decide +kernel) rfl (Nat.le_of_ble_eq_true rfl) (fun Γ X nt Q hin => ?_)
  refine V_aload_n (pc := 0) X 0 dX7_matches_0 rfl ?_
  refine V_iload_n (pc := 1) X 1 dX7_matches_1 rfl ?_
  refine V_callV (pc := 2) X clk7 (by decide) hx.1 _ (c_hasC hx) cw_X7_42 (Q.room (by decide) (by decide)) rfl (Nat.le_of_ble_eq_true rfl) rfl (by omega) dX7_matches_2 (fun _ _ z => z.elim) ?_
  rintro v2 h2 ⟨rfl, rfl⟩
  simp only [Option.toList_some, List.cons_append, List.nil_append]
  have hC := hasC_n (p := p) (n := xs.length) (by omega) (by omega)
  refine V_if_eq (pc := 5) X 51 dX7_matches_5 (by decide) (fun c5 => ?_) (fun c5 => ?_)
  · have p1 : ¬ p < xs.length := fun z => by rw [if_pos (hC.mpr z)] at c5; exact absurd c5 (by decide)
    have w1 : xs[p]? = none := List.getElem?_eq_none (by omega)
    refine V_iconst (pc := 51) (v := 0) X dX7_matches_51 (by decide) ?_
    refine V_iret (pc := 52) X Q rfl rfl dX7_matches_52 ?_
    refine ⟨?_, rfl⟩
    unfold mt
    first
    | (simp only [w1, w2]
       rw [if_pos (decide_eq_true ((nI_eq (by omega) (by omega)).mp c44))]; done)
    | (simp only [w1, w2]
       rw [if_neg (fun z => c44 (by rw [of_decide_eq_true z]))]; done)
    | (simp only [w1, w2]; rfl)
    | (simp only [w1]; rfl)
  · have p1 : p < xs.length := by
      by_cases z : p < xs.length
      · exact z
      · rw [if_neg (fun y => z (hC.mp y))] at c5; exact absurd rfl c5
    obtain ⟨x, w1⟩ : ∃ x, xs[p]? = some x := ⟨_, List.getElem?_eq_getElem p1⟩
    obtain ⟨l1, l2, l3, l4, l5⟩ := hT x (List.mem_of_getElem? w1)
    refine V_aload_n (pc := 8) X 2 dX7_matches_8 rfl ?_
    refine V_iload_n (pc := 9) X 3 dX7_matches_9 rfl ?_
    refine V_callV (pc := 10) X clk7 (by decide) hy.1 _ (c_hasC hy) cw_X7_42 (Q.room (by decide) (by decide)) rfl (Nat.le_of_ble_eq_true rfl) rfl (by omega) dX7_matches_10 (fun _ _ z => z.elim) ?_
    rintro v10 h10 ⟨rfl, rfl⟩
    simp only [Option.toList_some, List.cons_append, List.nil_append]
    have hD := hasC_n (p := q) (n := ys.length) (by omega) (by omega)
    refine V_if_eq (pc := 13) X 51 dX7_matches_13 (by decide) (fun c13 => ?_) (fun c13 => ?_)
    · have p2 : ¬ q < ys.length := fun z => by rw [if_pos (hD.mpr z)] at c13; exact absurd c13 (by decide)
      have w2 : ys[q]? = none := List.getElem?_eq_none (by omega)
      refine V_iconst (pc := 51) (v := 0) X dX7_matches_51 (by decide) ?_
      refine V_iret (pc := 52) X Q rfl rfl dX7_matches_52 ?_
      refine ⟨?_, rfl⟩
      unfold mt
      first
      | (simp only [w1, w2]
         rw [if_pos (decide_eq_true ((nI_eq (by omega) (by omega)).mp c44))]; done)
      | (simp only [w1, w2]
         rw [if_neg (fun z => c44 (by rw [of_decide_eq_true z]))]; done)
      | (simp only [w1, w2]; rfl)
      | (simp only [w1]; rfl)
    · have p2 : q < ys.length := by
        by_cases z : q < ys.length
        · exact z
        · rw [if_neg (fun y => z (hD.mp y))] at c13; exact absurd rfl c13
      obtain ⟨y, w2⟩ : ∃ y, ys[q]? = some y := ⟨_, List.getElem?_eq_getElem p2⟩
      obtain ⟨g1, g2, g3, g4, g5⟩ := hU y (List.mem_of_getElem? w2)
      refine V_aload_n (pc := 16) X 0 dX7_matches_16 rfl ?_
      refine V_get (pc := 17) X fl_X7_10 dX7_matches_17 hx.1 hx.2.1 ?_
      refine V_iload_n (pc := 20) X 1 dX7_matches_20 rfl ?_
      refine V_callL (pc := 21) X (Or.inl hx.2.2.1) _ (c_get (i := p) (x := la x) hx.2.2.1 (hx.get w1) (by rw [hx.len]; omega)) cw_X7_49 (Q.room (by decide) (by decide)) rfl (Nat.le_of_ble_eq_true rfl) rfl (by omega) dX7_matches_21 (fun _ _ z => z.elim) ?_
      rintro v21 h21 ⟨rfl, rfl⟩
      simp only [Option.toList_some, List.cons_append, List.nil_append]
      refine V_cast (pc := 24) X clk4 (by decide) ck_X7_56 l1 dX7_matches_24 ?_
      refine V_get (pc := 27) X fl_X7_61 dX7_matches_27 l1 l2 ?_
      refine V_aload_n (pc := 30) X 2 dX7_matches_30 rfl ?_
      refine V_get (pc := 31) X fl_X7_10 dX7_matches_31 hy.1 hy.2.1 ?_
      refine V_iload_n (pc := 34) X 3 dX7_matches_34 rfl ?_
      refine V_callL (pc := 35) X (Or.inl hy.2.2.1) _ (c_get (i := q) (x := la y) hy.2.2.1 (hy.get w2) (by rw [hy.len]; omega)) cw_X7_49 (Q.room (by decide) (by decide)) rfl (Nat.le_of_ble_eq_true rfl) rfl (by omega) dX7_matches_35 (fun _ _ z => z.elim) ?_
      rintro v35 h35 ⟨rfl, rfl⟩
      simp only [Option.toList_some, List.cons_append, List.nil_append]
      refine V_cast (pc := 38) X clk4 (by decide) ck_X7_56 g1 dX7_matches_38 ?_
      refine V_get (pc := 41) X fl_X7_61 dX7_matches_41 g1 g2 ?_
      refine V_icmp_ne (pc := 44) X 51 dX7_matches_44 (by decide) (fun c44 => ?_) (fun c44 => ?_)
      · refine V_iconst (pc := 51) (v := 0) X dX7_matches_51 (by decide) ?_
        refine V_iret (pc := 52) X Q rfl rfl dX7_matches_52 ?_
        refine ⟨?_, rfl⟩
        unfold mt
        first
        | (simp only [w1, w2]
           rw [if_pos (decide_eq_true ((nI_eq (by omega) (by omega)).mp c44))]; done)
        | (simp only [w1, w2]
           rw [if_neg (fun z => c44 (by rw [of_decide_eq_true z]))]; done)
        | (simp only [w1, w2]; rfl)
        | (simp only [w1]; rfl)
      · refine V_iconst (pc := 47) (v := 1) X dX7_matches_47 (by decide) ?_
        refine V_goto (pc := 48) X 52 dX7_matches_48 (by decide) ?_
        refine V_iret (pc := 52) X Q rfl rfl dX7_matches_52 ?_
        refine ⟨?_, rfl⟩
        unfold mt
        first
        | (simp only [w1, w2]
           rw [if_pos (decide_eq_true ((nI_eq (by omega) (by omega)).mp c44))]; done)
        | (simp only [w1, w2]
           rw [if_neg (fun z => c44 (by rw [of_decide_eq_true z]))]; done)
        | (simp only [w1, w2]; rfl)
        | (simp only [w1]; rfl)
theorem lks_of {tb : Nat → Nat × Nat} {xs ys : List Nat} (h1 : xs.length = ys.length) (h2 : ∀ i, i < xs.length → mt tb xs ys i i = true) : lks tb xs ys = true := by
  refine decide_eq_true (List.ext_getElem (by simp [h1]) (fun i a1 a2 => ?_))
  rw [List.length_map] at a1 a2
  have := h2 i a1
  unfold mt at this
  rw [List.getElem?_eq_getElem a1, List.getElem?_eq_getElem a2] at this
  rw [List.getElem_map, List.getElem_map]
  exact of_decide_eq_true this
theorem lks_len {tb : Nat → Nat × Nat} {xs ys : List Nat} (h1 : xs.length ≠ ys.length) : lks tb xs ys = false := decide_eq_false (fun z => h1 (by have := congrArg List.length z; rwa [List.length_map, List.length_map] at this))
theorem lks_at {tb : Nat → Nat × Nat} {xs ys : List Nat} (h1 : xs.length = ys.length) {i : Nat} (hi : i < xs.length) (h2 : mt tb xs ys i i ≠ true) : lks tb xs ys = false := by
  refine decide_eq_false (fun z => h2 ?_)
  have a2 : i < ys.length := by omega
  unfold mt
  rw [List.getElem?_eq_getElem hi, List.getElem?_eq_getElem a2]
  refine decide_eq_true ?_
  have e := congrArg (fun l => l[i]?) z
  simp only [List.getElem?_map, List.getElem?_eq_getElem hi, List.getElem?_eq_getElem a2, Option.map_some, Option.some.injEq] at e
  exact e
theorem c_looks {E : EV} {la : Nat → Nat} {tb : Nat → Nat × Nat} {h : AH} {t tl c u ul d : Nat} {xs ys : List Nat} (hx : TX la h t tl xs c) (hy : TX la h u ul ys d) (hT : ∀ x ∈ xs, LT la tb h x) (hU : ∀ x ∈ ys, LT la tb h x) (hl : xs.length < 2 ^ 29) (hm : ys.length < 2 ^ 29) : Ct E yX7_looksLike cX7_looksLike 3 (some .boolean) 5 0 [.ref t, .ref u] h (fun v h1 => v = some (.int (if lks tb xs ys then 1 else 0)) ∧ h1 = h) noX := by
  refine Ct_of RX7 (by decide +kernel) rfl (Nat.le_of_ble_eq_true rfl) (fun Γ X nt Q hin => ?_)
  refine V_aload_n (pc := 0) X 0 dX7_looksLike_0 rfl ?_
  refine V_get (pc := 1) X fl_X7_10 dX7_looksLike_1 hx.1 hx.2.1 ?_
  refine V_callL (pc := 4) X (Or.inl hx.2.2.1) _ (c_size hx.2.2.1) cw_X7_16 (Q.room (by decide) (by decide)) rfl (Nat.le_of_ble_eq_true rfl) rfl (by omega) dX7_looksLike_4 (fun _ _ z => z.elim) ?_
  rintro v4 h4 ⟨rfl, e4⟩
  rw [e4]
  simp only [Option.toList_some, List.cons_append, List.nil_append]
  rw [hx.len]
  refine V_aload_n (pc := 7) X 1 dX7_looksLike_7 rfl ?_
  refine V_get (pc := 8) X fl_X7_10 dX7_looksLike_8 hy.1 hy.2.1 ?_
  refine V_callL (pc := 11) X (Or.inl hy.2.2.1) _ (c_size hy.2.2.1) cw_X7_16 (Q.room (by decide) (by decide)) rfl (Nat.le_of_ble_eq_true rfl) rfl (by omega) dX7_looksLike_11 (fun _ _ z => z.elim) ?_
  rintro v11 h11 ⟨rfl, e11⟩
  rw [e11]
  simp only [Option.toList_some, List.cons_append, List.nil_append]
  rw [hy.len]
  refine V_icmp_eq (pc := 14) X 19 dX7_looksLike_14 (by decide) (fun c14 => ?_) (fun c14 => ?_)
  · have hll : xs.length = ys.length := (nI_eq (by omega) (by omega)).mp c14
    refine V_iconst (pc := 19) (v := 0) X dX7_looksLike_19 (by decide) ?_
    refine V_istore_n (pc := 20) X [(2, .int _), (0, .ref _), (1, .ref _)] dX7_looksLike_20 rfl (by decide) rfl ?_
    have key : ∀ (n i : Nat), xs.length - i < n → i ≤ xs.length → (∀ j, j < i → mt tb xs ys j j = true) → V E Γ 0 h 21 [(2, .int (nI i)), (0, .ref t), (1, .ref u)] [] := by
      intro n
      induction n with
      | zero => exact fun i hn => absurd hn (Nat.not_lt_zero _)
      | succ n ih =>
        intro i hn hi r1
        refine V_iload_n (pc := 21) X 0 dX7_looksLike_21 rfl ?_
        refine V_aload_n (pc := 22) X 1 dX7_looksLike_22 rfl ?_
        refine V_get (pc := 23) X fl_X7_10 dX7_looksLike_23 hx.1 hx.2.1 ?_
        refine V_callL (pc := 26) X (Or.inl hx.2.2.1) _ (c_size hx.2.2.1) cw_X7_16 (Q.room (by decide) (by decide)) rfl (Nat.le_of_ble_eq_true rfl) rfl (by omega) dX7_looksLike_26 (fun _ _ z => z.elim) ?_
        rintro v26 h26 ⟨rfl, rfl⟩
        simp only [Option.toList_some, List.cons_append, List.nil_append]
        rw [hx.len]
        refine V_icmp_ge (pc := 29) X 50 dX7_looksLike_29 (by decide) (fun c29 => ?_) (fun c29 => ?_)
        · have hie : ¬ i < xs.length := fun z => nI_ge z (by omega) c29
          refine V_iconst (pc := 50) (v := 1) X dX7_looksLike_50 (by decide) ?_
          refine V_iret (pc := 51) X Q rfl rfl dX7_looksLike_51 ?_
          exact ⟨by rw [lks_of hll (fun j hj => r1 j (by omega))]; rfl, rfl⟩
        · have hlt : i < xs.length := by
            rcases Nat.lt_or_ge i (xs.length) with z | z
            · exact z
            · exact absurd (nI_le z (by omega)) c29
          refine V_aload_n (pc := 32) X 1 dX7_looksLike_32 rfl ?_
          refine V_iload_n (pc := 33) X 0 dX7_looksLike_33 rfl ?_
          refine V_aload_n (pc := 34) X 2 dX7_looksLike_34 rfl ?_
          refine V_iload_n (pc := 35) X 0 dX7_looksLike_35 rfl ?_
          refine V_callV (pc := 36) X clk7 (by decide) hx.1 _ (c_matches hx hy hT hU hl hm (p := i) (q := i) (by omega) (by omega)) cw_X7_64 (Q.room (by decide) (by decide)) rfl (Nat.le_of_ble_eq_true rfl) rfl (by omega) dX7_looksLike_36 (fun _ _ z => z.elim) ?_
          rintro v36 h36 ⟨rfl, rfl⟩
          simp only [Option.toList_some, List.cons_append, List.nil_append]
          refine V_if_ne (pc := 39) X 44 dX7_looksLike_39 (by decide) (fun c39 => ?_) (fun c39 => ?_)
          · have e1 : mt tb xs ys i i = true := by
              by_cases z : mt tb xs ys i i = true
              · exact z
              · rw [if_neg z] at c39; exact absurd rfl c39
            refine V_inc1 (pc := 44) X 0 [(2, .int _), (0, .ref _), (1, .ref _)] dX7_looksLike_44 rfl (by decide) rfl ?_
            rw [nI_1]
            refine V_goto (pc := 47) X 21 dX7_looksLike_47 (by decide) ?_
            exact ih (i + 1) (by omega) (by omega) (fun j hj => by
                rcases Nat.lt_or_ge j i with z | z
                · exact r1 j z
                · rw [show j = i by omega]; exact e1)
          · have e1 : mt tb xs ys i i ≠ true := fun z => by rw [if_pos z] at c39; exact absurd c39 (by decide)
            refine V_iconst (pc := 42) (v := 0) X dX7_looksLike_42 (by decide) ?_
            refine V_iret (pc := 43) X Q rfl rfl dX7_looksLike_43 ?_
            exact ⟨by rw [lks_at hll hlt e1]; rfl, rfl⟩
    exact key (xs.length + 1) 0 (by omega) (Nat.zero_le _) (fun j hj => absurd hj (Nat.not_lt_zero _))
  · refine V_iconst (pc := 17) (v := 0) X dX7_looksLike_17 (by decide) ?_
    refine V_iret (pc := 18) X Q rfl rfl dX7_looksLike_18 ?_
    exact ⟨by rw [lks_len (fun z => c14 (by rw [z]))]; rfl, rfl⟩
theorem c_number {E : EV} {la : Nat → Nat} {tb : Nat → Nat × Nat} {h : AH} {t tl c : Nat} {xs : List Nat} (hx : TX la h t tl xs c) (hT : ∀ x ∈ xs, LT la tb h x) (hl : xs.length < 2 ^ 29) : Ct E yX7_number cX7_number 4 (some .long) 4 0 [.ref t] h (fun v h1 => v = some (.long (num tb xs 7)) ∧ h1 = h) noX := by
  refine Ct_of RX7 (by decide +kernel) rfl (Nat.le_of_ble_eq_true rfl) (fun Γ X nt Q hin => ?_)
  refine V_ldc2 (pc := 0) X lc_X7_68 dX7_number_0 ?_
  refine V_lstore_n (pc := 3) X [(1, .long _), (0, .ref _)] dX7_number_3 rfl (by decide) rfl ?_
  refine V_iconst (pc := 4) (v := 0) X dX7_number_4 (by decide) ?_
  refine V_istore_n (pc := 5) X [(3, .int _), (1, .long _), (0, .ref _)] dX7_number_5 rfl (by decide) rfl ?_
  have key : ∀ (n i : Nat), xs.length - i < n → i ≤ xs.length → ∀ s : Int64, num tb (xs.drop i) s = num tb xs 7 → V E Γ 0 h 6 [(3, .int (nI i)), (1, .long s), (0, .ref t)] [] := by
    intro n
    induction n with
    | zero => exact fun i hn => absurd hn (Nat.not_lt_zero _)
    | succ n ih =>
      intro i hn hi s r1
      refine V_iload_n (pc := 6) X 0 dX7_number_6 rfl ?_
      refine V_aload_n (pc := 7) X 2 dX7_number_7 rfl ?_
      refine V_get (pc := 8) X fl_X7_10 dX7_number_8 hx.1 hx.2.1 ?_
      refine V_callL (pc := 11) X (Or.inl hx.2.2.1) _ (c_size hx.2.2.1) cw_X7_16 (Q.room (by decide) (by decide)) rfl (Nat.le_of_ble_eq_true rfl) rfl (by omega) dX7_number_11 (fun _ _ z => z.elim) ?_
      rintro v11 h11 ⟨rfl, rfl⟩
      simp only [Option.toList_some, List.cons_append, List.nil_append]
      rw [hx.len]
      refine V_icmp_ge (pc := 14) X 45 dX7_number_14 (by decide) (fun c14 => ?_) (fun c14 => ?_)
      · have hie : ¬ i < xs.length := fun z => nI_ge z (by omega) c14
        refine V_lload_n (pc := 45) X 1 dX7_number_45 rfl ?_
        refine V_lret (pc := 46) X Q rfl dX7_number_46 ?_
        refine ⟨?_, rfl⟩
        rw [List.drop_eq_nil_of_le (by omega)] at r1
        rw [← r1]
        rfl
      · have hlt : i < xs.length := by
          rcases Nat.lt_or_ge i (xs.length) with z | z
          · exact z
          · exact absurd (nI_le z (by omega)) c14
        obtain ⟨y, hy⟩ : ∃ y, xs[i]? = some y := ⟨_, List.getElem?_eq_getElem hlt⟩
        rw [drop_at hy] at r1
        obtain ⟨l1, l2, l3, l4, l5⟩ := hT y (List.mem_of_getElem? hy)
        refine V_lload_n (pc := 17) X 1 dX7_number_17 rfl ?_
        refine V_ldc2 (pc := 18) X lc_X7_70 dX7_number_18 ?_
        refine V_lmul (pc := 21) X dX7_number_21 ?_
        refine V_aload_n (pc := 22) X 2 dX7_number_22 rfl ?_
        refine V_get (pc := 23) X fl_X7_10 dX7_number_23 hx.1 hx.2.1 ?_
        refine V_iload_n (pc := 26) X 0 dX7_number_26 rfl ?_
        refine V_callL (pc := 27) X (Or.inl hx.2.2.1) _ (c_get (i := i) (x := la y) hx.2.2.1 (hx.get hy) (by rw [hx.len]; omega)) cw_X7_49 (Q.room (by decide) (by decide)) rfl (Nat.le_of_ble_eq_true rfl) rfl (by omega) dX7_number_27 (fun _ _ z => z.elim) ?_
        rintro v27 h27 ⟨rfl, rfl⟩
        simp only [Option.toList_some, List.cons_append, List.nil_append]
        refine V_cast (pc := 30) X clk4 (by decide) ck_X7_56 l1 dX7_number_30 ?_
        refine V_get (pc := 33) X fl_X7_61 dX7_number_33 l1 l2 ?_
        refine V_i2l (pc := 36) X dX7_number_36 ?_
        rw [nI_l (by omega)]
        refine V_ladd (pc := 37) X dX7_number_37 ?_
        refine V_lstore_n (pc := 38) X [(1, .long _), (3, .int _), (0, .ref _)] dX7_number_38 rfl (by decide) rfl ?_
        refine V_inc1 (pc := 39) X 1 [(3, .int _), (1, .long _), (0, .ref _)] dX7_number_39 rfl (by decide) rfl ?_
        rw [nI_1]
        refine V_goto (pc := 42) X 6 dX7_number_42 (by decide) ?_
        exact ih (i + 1) (by omega) (by omega) _ r1
  exact key (xs.length + 1) 0 (by omega) (Nat.zero_le _) 7 rfl
theorem c_text {E : EV} {h : AH} {t : Nat} (hk : qK h t = 8) : Ct E yX7_init cX7_init 1 none 5 3 [.ref t] h (fun v h1 => v = none ∧ ∃ q, qK h q = 0 ∧ (∀ la, TX la h1 t q [] 0) ∧ (∀ f b, f ≠ 700 → b ≠ q → qF h1 f b = qF h f b) ∧ Fr (fun b => b = t) h h1) noX := by
  refine Ct_of RX7 (by decide +kernel) rfl (Nat.le_of_ble_eq_true rfl) (fun Γ X nt Q hin => ?_)
  refine V_aload_n (pc := 0) X 0 dX7_init_0 rfl ?_
  refine V_objInit (pc := 1) X oi_X7_1 ⟨Q.fr (by decide), Q.lo (by decide)⟩ (Nat.le_of_ble_eq_true rfl) dX7_init_1 ?_
  refine V_aload_n (pc := 4) X 0 dX7_init_4 rfl ?_
  refine V_newL (pc := 5) X nw_X7_7 inW10 (by omega) dX7_init_5 (fun q h0 => ?_)
  have hqt : t ≠ q := fun z => by rw [z] at hk; omega
  refine V_dup (pc := 8) X dX7_init_8 rfl ?_
  refine V_callI (pc := 9) X _ (c_listInit h0) cw_X7_9 (Q.room (by decide) (by decide)) rfl (Nat.le_of_ble_eq_true rfl) rfl (by omega) dX7_init_9 ?_
  rintro v9 h9 ⟨rfl, rfl⟩
  simp only [Option.toList_none, List.nil_append]
  refine V_putF (pc := 12) X hin fl_X7_10 dX7_init_12 (by rw [qK_sL, qK_sK, if_neg hqt]; exact hk) ⟨rfl, rfl⟩ ?_
  refine V_vret (pc := 15) X Q rfl dX7_init_15 ?_
  refine ⟨rfl, q, h0, fun la => ⟨by rw [qK_sF, qK_sL, qK_sK, if_neg hqt]; exact hk, by rw [qF_sF, if_pos ⟨rfl, rfl⟩], by rw [qK_sF, qK_sL, qK_sK, if_pos rfl], by rw [qL_sF, qL_sL, if_pos rfl]; rfl, by rw [qC_sF, qC_sL, if_pos rfl]⟩, fun f b hf hb => by rw [qF_sF, if_neg (fun z => hf z.1)]; rfl, ?_⟩
  exact (((Fr_sK (S := fun b => b = t ∨ b = q) h0).seq (Fr_sL (Or.inr rfl))).seq (Fr_sF (Or.inl rfl))).mono (fun a ha z => z.elim (fun z => z) (fun z => absurd (by rw [z]; exact h0) ha))
