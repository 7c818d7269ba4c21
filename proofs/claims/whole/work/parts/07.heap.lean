/-! ROWS OF THE HEAP -/
/-- a class's words -/
def CLK (ci : Nat) (C : String) (T : u_T) (N : Nat) (ty0 : Nat → FieldType) : Prop :=
  kcl[ci]? = some (C, T, N) ∧ nfl ci = N ∧ (∀ w ∈ u_ws C T N, w ∈ WS) ∧ (∀ k, k < N → parseFieldDescriptor (T k).2.2.1 = some (ty0 k)) ∧ (∀ a, a < N → ∀ b, b < N → a ≠ b → (T a).2.1 ≠ (T b).2.1)
/-- a field's words: its number, who links it where, its type, whether it is final, the class that declares it -/
def FL (f : Nat) (own : String) (index : Nat) (ty : FieldType) (fin : Bool) (dcl : String) : Prop :=
  ∃ (C : String) (T : u_T) (N : Nat) (ty0 : Nat → FieldType), CLK (f / 100) C T N ty0 ∧ f / 100 ≤ 9 ∧ f % 100 < N ∧ ty0 (f % 100) = ty ∧ (T (f % 100)).2.2.2 = fin ∧ (T (f % 100)).1 = dcl ∧ Cond.fieldLink own index (T (f % 100)).1 (T (f % 100)).2.1 (T (f % 100)).2.2.1 ∈ WS
section VH
variable {E : EV} {Γ : VG} {own : String} {cc : ByteArray} {nL b : Nat} {h : AH} {pc : Nat} {lv : List (Nat × Value)} {st : List Value}
theorem CX.ts (X : CX E Γ own cc nL) : ∀ w ∈ WS, w.before (ga Γ) (gs Γ) = true := X.2.2.2.2.1
theorem CX.en (X : CX E Γ own cc nL) : EN E (gs Γ) := X.2.2.2.2.2.1
theorem CX.ow (X : CX E Γ own cc nL) : (gs Γ).vm.findClass own = some (gm Γ).cls := X.2.2.2.1
theorem HP.obj {E : EV} {h : AH} {H : Heap} {a ci : Nat} (hp : HP E h H) (hk : qK h a = ci + 1) (hc : ci ≤ 9) : t_OB a ((eD E).1 ci) (nfl ci) ((eD E).2 ci) H (fun k => qF h (100 * ci + k) a) := by
  obtain ⟨bk, mcn, p1, -, -⟩ := hp
  have z := (p1 a (by omega)).2.2.1 (by omega)
  rw [hk] at z
  exact z
theorem V_get (X : CX E Γ own cc nL) {f index a : Nat} {ty : FieldType} {fin : Bool} {dcl : String} {v : Value} (F : FL f own index ty fin dcl) (d : decode cc pc = .ok (.getfield index, 3)) (hk : qK h a = f / 100 + 1) (hv : qF h f a = v) (k : V E Γ b h (pc + 3) lv (v :: st)) : V E Γ b h pc lv (.ref a :: st) := by
  intro ls H locs k9 n9 h1 h2 h3 h4 h5
  obtain ⟨C, T, N, ty0, ⟨c1, c2, c3, c4, c5⟩, f1, f2, f3, f4, f5, f6⟩ := F
  obtain ⟨cell, q1, q2, q3, q4⟩ := h2.obj hk f1
  obtain ⟨hS, hfc, kC, hkC, hkind⟩ := X.en.1.1 _ _ c1
  obtain ⟨cf, kf, fi, fd, hi, hsl⟩ := hS (f % 100) f2
  refine W.getf X.1 X.2.1 X.ow (X.ts _ f6) hi (u_facts hfc hkC (u_lays X.ts c3 f2) hi).1 q1 (by rw [q3]; exact fun h => by cases h) (v := v) ?_ rfl rfl d (k ls H locs k9 n9 h1 h2 h3 h4 h5)
  rw [hsl, q4 _ (by rw [c2]; exact f2)]
  show some (qF h (100 * (f / 100) + f % 100) a) = some v
  rw [Nat.div_add_mod, hv]
theorem V_put (X : CX E Γ own cc nL) {f index a : Nat} {ty : FieldType} {dcl : String} {v : Value} (F : FL f own index ty false dcl) (d : decode cc pc = .ok (.putfield index, 3)) (hk : qK h a = f / 100 + 1) (hn : narrow ty v = v ∧ fits ty v = true) (k : V E Γ b (sF h f a v) (pc + 3) lv st) : V E Γ b h pc lv (v :: .ref a :: st) := by
  intro ls H locs k9 n9 h1 h2 h3 h4 h5
  obtain ⟨C, T, N, ty0, ⟨c1, c2, c3, c4, c5⟩, f1, f2, f3, f4, f5, f6⟩ := F
  have hap := va_apart (own := own) X.ts c3 ty0 c4 c5 X.en.1 c1
  obtain ⟨cell, q1, q2, q3, q4⟩ := h2.obj hk f1
  obtain ⟨hS, hfc, kC, hkC, hkind⟩ := X.en.1.1 _ _ c1
  obtain ⟨cf, kf, fi, fd, hi, hsl⟩ := hS (f % 100) f2
  have hlay := X.ts _ (c3 _ (u_in_lay f2))
  unfold u_lay at hlay
  rw [if_neg (by rw [f4]; decide)] at hlay
  have hst := (u_facts hfc hkC (u_lays X.ts c3 f2) hi).1
  have h6 := u_store hfc hkC hkind hlay hi (c4 _ f2) (by rw [f3]; exact hn.1) (by rw [f3]; exact hn.2)
  rw [c2] at q4
  refine W.putK X.1 X.2.1 (f := fd) ⟨X.ow, X.ts _ f6, ⟨_, _, _, hi⟩, hst⟩ (by rw [q2]; exact h6) q1 q3 (by rw [hsl]; exact k2_hasslot (q4 _ f2)) rfl rfl d fun H' e1 e2 e3 => ?_
  rw [hsl] at e1 ⊢
  refine k ls H' _ k9 n9 h1 ?_ (h3.put e2 e3 ?_) h4 h5
  · refine h2.upd (a := a) (by rw [hk]; omega) (by rw [hk]; omega) rfl rfl rfl (fun g x hx => by rw [qF_sF, if_neg (fun z => hx z.2)]) (fun _ _ => rfl) e2 e3 (fun bk mcn z => ?_)
    unfold qAt
    simp only [qK_sF, hk, Nat.add_sub_cancel]
    refine ⟨fun _ => ?_, fun z => by omega, fun z => by omega, fun z => by omega, fun z => by omega, fun z => by omega, fun z => by omega, fun z => by omega⟩
    rw [c2]
    refine t_OB.to (V := updV (fun k => qF h (100 * (f / 100) + k) a) (f % 100) v) ⟨_, e1, q2, q3, t_set q4 hap f2 v⟩ (fun j hj => ?_)
    by_cases e : j = f % 100
    · rw [e, qF_sF, Nat.div_add_mod, if_pos ⟨rfl, rfl⟩, updV, if_pos rfl]
    · rw [qF_sF, if_neg (fun z => e (by have := z.1; have := Nat.div_add_mod f 100; omega)), updV, if_neg e]
  · obtain ⟨bk, mcn, p1, -, -⟩ := h2
    exact (p1 a (by rw [hk]; omega)).1
theorem V_putF (X : CX E Γ own cc nL) {f index a : Nat} {ty : FieldType} {v : Value} (hin : (gM Γ).name = "<init>") (F : FL f own index ty true own) (d : decode cc pc = .ok (.putfield index, 3)) (hk : qK h a = f / 100 + 1) (hn : narrow ty v = v ∧ fits ty v = true) (k : V E Γ b (sF h f a v) (pc + 3) lv st) : V E Γ b h pc lv (v :: .ref a :: st) := by
  intro ls H locs k9 n9 h1 h2 h3 h4 h5
  obtain ⟨C, T, N, ty0, ⟨c1, c2, c3, c4, c5⟩, f1, f2, f3, f4, f5, f6⟩ := F
  have hap := va_apart (own := own) X.ts c3 ty0 c4 c5 X.en.1 c1
  obtain ⟨cell, q1, q2, q3, q4⟩ := h2.obj hk f1
  obtain ⟨hS, hfc, kC, hkC, hkind⟩ := X.en.1.1 _ _ c1
  obtain ⟨cf, kf, fi, fd, hi, hsl⟩ := hS (f % 100) f2
  have hlay := X.ts _ (c3 _ (u_in_lay f2))
  unfold u_lay at hlay
  rw [if_pos f4] at hlay
  have hst := (u_facts hfc hkC (u_lays X.ts c3 f2) hi).1
  have hcf : (gm Γ).cls = cf := by
    obtain ⟨_, _, c', _, _, _, -, -, hf', -, -, -, hown2, -⟩ := Cond.laysFinal_spec hlay
    have e1 : c' = cf := by have := hi.symm.trans hf'; simp at this; exact this.1.symm
    rw [f5] at hown2
    rw [← e1]; exact Option.some.inj (X.ow.symm.trans hown2)
  have h6 := u_fits hfc hkC hkind (Or.inr hlay) hi (c4 _ f2) (by rw [f3]; exact hn.1) (by rw [f3]; exact hn.2)
  rw [c2] at q4
  refine W.putFinK X.1 X.2.1 X.ow (X.ts _ f6) hi hst hcf hin (by rw [q2]; exact h6) q1 q3 (by rw [hsl]; exact k2_hasslot (q4 _ f2)) rfl rfl d fun H' e1 e2 e3 => ?_
  rw [hsl] at e1 ⊢
  refine k ls H' _ k9 n9 h1 ?_ (h3.put e2 e3 ?_) h4 h5
  · refine h2.upd (a := a) (by rw [hk]; omega) (by rw [hk]; omega) rfl rfl rfl (fun g x hx => by rw [qF_sF, if_neg (fun z => hx z.2)]) (fun _ _ => rfl) e2 e3 (fun bk mcn z => ?_)
    unfold qAt
    simp only [qK_sF, hk, Nat.add_sub_cancel]
    refine ⟨fun _ => ?_, fun z => by omega, fun z => by omega, fun z => by omega, fun z => by omega, fun z => by omega, fun z => by omega, fun z => by omega⟩
    rw [c2]
    refine t_OB.to (V := updV (fun k => qF h (100 * (f / 100) + k) a) (f % 100) v) ⟨_, e1, q2, q3, t_set q4 hap f2 v⟩ (fun j hj => ?_)
    by_cases e : j = f % 100
    · rw [e, qF_sF, Nat.div_add_mod, if_pos ⟨rfl, rfl⟩, updV, if_pos rfl]
    · rw [qF_sF, if_neg (fun z => e (by have := z.1; have := Nat.div_add_mod f 100; omega)), updV, if_neg e]
  · obtain ⟨bk, mcn, p1, -, -⟩ := h2
    exact (p1 a (by rw [hk]; omega)).1
/-- a new object of a class -/
theorem V_new (X : CX E Γ own cc nL) {ci index N u : Nat} {C : String} {T : u_T} {ty0 : Nat → FieldType} (c : CLK ci C T N ty0) (hci : ci ≤ 9) (hw : Cond.classLink own index C ∈ WS ∧ Cond.instantiable C N ∈ WS ∧ Cond.initialized C ∈ WS) (hd : ∀ j, j < N → defaultValue (ty0 j) = dfv (100 * ci + j)) (hu : 3 ≤ u ∧ N ≤ 4 * u ∧ u ≤ b) (d : decode cc pc = .ok (.new index, 3))
    (k : ∀ q, qK h q = 0 → V E Γ (b - u) (nO h q (ci + 1)) (pc + 3) lv (.ref q :: st)) : V E Γ b h pc lv st := by
  intro ls H locs k9 n9 h1 h2 h3 h4 h5
  obtain ⟨c1, c2, c3, c4, c5⟩ := c
  have hKn := X.en.1.1 _ _ c1
  refine W.newcK X.1 X.2.1 X.ow (X.ts _ hw.1) (X.ts _ hw.2.1) (X.ts _ hw.2.2) rfl d (by omega) (by omega) hKn.2.1 rfl fun H1 kC hkC e1 z1 o1 => ?_
  have hN : eN E ≤ H.size := Nat.le_trans X.en.2.2.2.2.2.2.2.1 h3.1
  have key := h2.add (h1 := nO h H.size (ci + 1)) (H1 := H1) (q := H.size) rfl hN (by rw [qK_nO, if_pos rfl]; omega) (fun x hx => by rw [qK_nO, if_neg hx]) (fun _ _ => rfl) (fun _ _ => rfl) (fun f x hx => by rw [qF_nO, if_neg hx]) (fun _ _ => rfl) z1 o1 (fun bk mcn => by
    unfold qAt
    simp only [qK_nO, if_pos, Nat.add_sub_cancel]
    refine ⟨fun _ => ?_, fun z => by omega, fun z => by omega, fun z => by omega, fun z => by omega, fun z => by omega, fun z => by omega, fun z => by omega⟩
    rw [c2]
    exact (u_born ty0 X.ts c3 hKn hkC e1 c4).to (fun j hj => by rw [qF_nO, if_pos rfl]; exact hd j hj))
  exact k H.size key.2 ls H1 _ (k9 + 1) (n9 + N) h1 key.1 ⟨Nat.le_trans h3.1 (by omega), fun x x1 x2 => (o1 x (Nat.lt_of_lt_of_le x1 h3.1)).trans (h3.2.1 x x1 x2), h3.2.2⟩ (by omega) (by omega)
/-- a new list, before its constructor -/
theorem V_newL (X : CX E Γ own cc nL) {index : Nat} (hw : Cond.classLink own index RJx4a65c ∈ WS ∧ Cond.instantiable RJx4a65c 3 ∈ WS ∧ Cond.initialized RJx4a65c ∈ WS) (hin : ∀ w ∈ u_ws RJx4a65c TJx4a65c 3, w ∈ WS) (hu : 3 ≤ b) (d : decode cc pc = .ok (.new index, 3))
    (k : ∀ q, qK h q = 0 → V E Γ (b - 3) (nO h q 18) (pc + 3) lv (.ref q :: st)) : V E Γ b h pc lv st := by
  intro ls H locs k9 n9 h1 h2 h3 h4 h5
  have hKn := X.en.1.1 10 _ rfl
  refine W.newcK X.1 X.2.1 X.ow (X.ts _ hw.1) (X.ts _ hw.2.1) (X.ts _ hw.2.2) rfl d (by omega) (by omega) hKn.2.1 rfl fun H1 kC hkC e1 z1 o1 => ?_
  have hN : eN E ≤ H.size := Nat.le_trans X.en.2.2.2.2.2.2.2.1 h3.1
  have key := h2.add (h1 := nO h H.size 18) (H1 := H1) (q := H.size) rfl hN (by rw [qK_nO, if_pos rfl]; omega) (fun x hx => by rw [qK_nO, if_neg hx]) (fun _ _ => rfl) (fun _ _ => rfl) (fun f x hx => by rw [qF_nO, if_neg hx]) (fun _ _ => rfl) z1 o1 (fun bk mcn => by
    unfold qAt
    simp only [qK_nO, if_pos]
    refine ⟨fun z => by omega, fun z => by omega, fun _ => ?_, fun z => by omega, fun z => by omega, fun z => by omega, fun z => by omega, fun z => by omega⟩
    exact (u_born tyJx4a65c X.ts hin hKn hkC e1 tyJx4a65c_ok).to (fun j hj => by
      rcases (show j = 0 ∨ j = 1 ∨ j = 2 by omega) with rfl | rfl | rfl <;> (rw [qF_nO, if_pos rfl]; rfl)))
  exact k H.size key.2 ls H1 _ (k9 + 1) (n9 + 3) h1 key.1 ⟨Nat.le_trans h3.1 (by omega), fun x x1 x2 => (o1 x (Nat.lt_of_lt_of_le x1 h3.1)).trans (h3.2.1 x x1 x2), h3.2.2⟩ (by omega) (by omega)
/-- a new row of ints (kind 13 or 14) or booleans (15) -/
theorem arr_name (E : EV) (s : State) (h : EN E s) (i : Nat) (ty : FieldType) (hi : (ety E)[i]? = some (eA E i, ty)) (hno : ∀ C, ty ≠ .object C) : s.vm.findClass ("[" ++ ty.toString) = some (eA E i) := by
  have z := (h.1.2 i _ hi).2
  cases ty <;> first | exact z | exact absurd rfl (hno _)
theorem V_newarrI (X : CX E Γ own cc nL) {n : Int32} {N u kd : Nat} (hkd : kd = 13 ∨ kd = 14) (hn : ¬ n < 0) (hN : n.toNatClampNeg = N) (hb : N * 4 ≤ 536870912) (hu : 3 ≤ u ∧ N ≤ 4 * u ∧ u ≤ b) (hw : Cond.arrayClass .int ∈ WS) (d : decode cc pc = .ok (.newarray .int, 2))
    (k : ∀ q, qK h q = 0 → V E Γ (b - u) (sI (sK h q kd) q (List.replicate N 0)) (pc + 2) lv (.ref q :: st)) : V E Γ b h pc lv (.int n :: st) := by
  intro ls H locs k9 n9 h1 h2 h3 h4 h5
  refine va_newaK (atype := .int) X.1 X.2.1 (X.ts _ hw) rfl d rfl hn hN hb (by omega) (by omega) rfl fun H1 cA e1 z1 o1 hAr hNm => ?_
  have hA : cA = eA E 1 := Option.some.inj (hNm.symm.trans (arr_name E _ X.en 1 .int rfl (by simp)))
  have hN2 : eN E ≤ H.size := Nat.le_trans X.en.2.2.2.2.2.2.2.1 h3.1
  have key := h2.add (h1 := sI (sK h H.size kd) H.size (List.replicate N 0)) (H1 := H1) (q := H.size) rfl hN2 (by rw [qK_sI, qK_sK, if_pos rfl]; omega) (fun x hx => by rw [qK_sI, qK_sK, if_neg hx]) (fun _ _ => rfl) (fun _ _ => rfl) (fun f x hx => rfl) (fun x hx => by rw [qI_sI, if_neg hx]; rfl) z1 o1 (fun bk mcn => by
    unfold qAt
    simp only [qK_sI, qK_sK, if_pos, qI_sI, List.length_replicate]
    refine ⟨fun z => by omega, fun z => by omega, fun z => by omega, fun _ => ?_, fun z => by omega, fun z => by omega, fun z => by omega, fun z => by omega⟩
    rw [e1, hA]
    congr 2
    funext j
    show Value.int 0 = _
    congr 1
    simp only [List.getD_eq_getElem?_getD, List.getElem?_replicate]
    split <;> rfl)
  exact k H.size key.2 ls H1 _ (k9 + 1) (n9 + N) h1 key.1 ⟨Nat.le_trans h3.1 (by omega), fun x x1 x2 => (o1 x (Nat.lt_of_lt_of_le x1 h3.1)).trans (h3.2.1 x x1 x2), h3.2.2⟩ (by omega) (by omega)
theorem V_newarrZ (X : CX E Γ own cc nL) {n : Int32} {N u : Nat} (hn : ¬ n < 0) (hN : n.toNatClampNeg = N) (hb : N * 1 ≤ 536870912) (hu : 3 ≤ u ∧ N ≤ 4 * u ∧ u ≤ b) (hw : Cond.arrayClass .boolean ∈ WS) (d : decode cc pc = .ok (.newarray .boolean, 2))
    (k : ∀ q, qK h q = 0 → V E Γ (b - u) (sI (sK h q 15) q (List.replicate N 0)) (pc + 2) lv (.ref q :: st)) : V E Γ b h pc lv (.int n :: st) := by
  intro ls H locs k9 n9 h1 h2 h3 h4 h5
  refine va_newaK (atype := .boolean) X.1 X.2.1 (X.ts _ hw) rfl d rfl hn hN hb (by omega) (by omega) rfl fun H1 cA e1 z1 o1 hAr hNm => ?_
  have hA : cA = eA E 2 := Option.some.inj (hNm.symm.trans (arr_name E _ X.en 2 .boolean rfl (by simp)))
  have hN2 : eN E ≤ H.size := Nat.le_trans X.en.2.2.2.2.2.2.2.1 h3.1
  have key := h2.add (h1 := sI (sK h H.size 15) H.size (List.replicate N 0)) (H1 := H1) (q := H.size) rfl hN2 (by rw [qK_sI, qK_sK, if_pos rfl]; omega) (fun x hx => by rw [qK_sI, qK_sK, if_neg hx]) (fun _ _ => rfl) (fun _ _ => rfl) (fun f x hx => rfl) (fun x hx => by rw [qI_sI, if_neg hx]; rfl) z1 o1 (fun bk mcn => by
    unfold qAt
    simp only [qK_sI, qK_sK, if_pos, qI_sI, List.length_replicate]
    refine ⟨fun z => by omega, fun z => by omega, fun z => by omega, fun z => by omega, fun _ => ?_, fun z => by omega, fun z => by omega, fun z => by omega⟩
    rw [e1, hA]
    congr 2
    funext j
    show Value.int 0 = _
    congr 1
    simp only [List.getD_eq_getElem?_getD, List.getElem?_replicate]
    split <;> rfl)
  exact k H.size key.2 ls H1 _ (k9 + 1) (n9 + N) h1 key.1 ⟨Nat.le_trans h3.1 (by omega), fun x x1 x2 => (o1 x (Nat.lt_of_lt_of_le x1 h3.1)).trans (h3.2.1 x x1 x2), h3.2.2⟩ (by omega) (by omega)
theorem V_newarrJ (X : CX E Γ own cc nL) (hu : 3 ≤ b) (hw : Cond.arrayClass .long ∈ WS) (d : decode cc pc = .ok (.newarray .long, 2))
    (k : ∀ q, qK h q = 0 → V E Γ (b - 3) (sF (sK h q 16) 1600 q (.long 0)) (pc + 2) lv (.ref q :: st)) : V E Γ b h pc lv (.int 1 :: st) := by
  intro ls H locs k9 n9 h1 h2 h3 h4 h5
  refine va_newaK (atype := .long) (N := 1) X.1 X.2.1 (X.ts _ hw) rfl d rfl (by decide) (by decide) (by decide) (by omega) (by omega) rfl fun H1 cA e1 z1 o1 hAr hNm => ?_
  have hA : cA = eA E 3 := Option.some.inj (hNm.symm.trans (arr_name E _ X.en 3 .long rfl (by simp)))
  have hN2 : eN E ≤ H.size := Nat.le_trans X.en.2.2.2.2.2.2.2.1 h3.1
  have key := h2.add (h1 := sF (sK h H.size 16) 1600 H.size (.long 0)) (H1 := H1) (q := H.size) rfl hN2 (by rw [qK_sF, qK_sK, if_pos rfl]; omega) (fun x hx => by rw [qK_sF, qK_sK, if_neg hx]) (fun _ _ => rfl) (fun _ _ => rfl) (fun f x hx => by rw [qF_sF, if_neg (fun z => hx z.2)]; rfl) (fun x hx => rfl) z1 o1 (fun bk mcn => by
    unfold qAt
    simp only [qK_sF, qK_sK, if_pos, qF_sF]
    refine ⟨fun z => by omega, fun z => by omega, fun z => by omega, fun z => by omega, fun z => by omega, fun _ => ⟨0, by simp, ?_⟩, fun z => by omega, fun z => by omega⟩
    rw [e1, hA]
    rfl)
  exact k H.size key.2 ls H1 _ (k9 + 1) (n9 + 1) h1 key.1 ⟨Nat.le_trans h3.1 (by omega), fun x x1 x2 => (o1 x (Nat.lt_of_lt_of_le x1 h3.1)).trans (h3.2.1 x x1 x2), h3.2.2⟩ (by omega) (by omega)
theorem V_newarrD (X : CX E Γ own cc nL) (hu : 3 ≤ b) (hw : Cond.arrayClass .double ∈ WS) (d : decode cc pc = .ok (.newarray .double, 2))
    (k : ∀ q, qK h q = 0 → V E Γ (b - 3) (sF (sK h q 17) 1700 q (.double 0)) (pc + 2) lv (.ref q :: st)) : V E Γ b h pc lv (.int 1 :: st) := by
  intro ls H locs k9 n9 h1 h2 h3 h4 h5
  refine va_newaK (atype := .double) (N := 1) X.1 X.2.1 (X.ts _ hw) rfl d rfl (by decide) (by decide) (by decide) (by omega) (by omega) rfl fun H1 cA e1 z1 o1 hAr hNm => ?_
  have hA : cA = eA E 4 := Option.some.inj (hNm.symm.trans (arr_name E _ X.en 4 .double rfl (by simp)))
  have hN2 : eN E ≤ H.size := Nat.le_trans X.en.2.2.2.2.2.2.2.1 h3.1
  have key := h2.add (h1 := sF (sK h H.size 17) 1700 H.size (.double 0)) (H1 := H1) (q := H.size) rfl hN2 (by rw [qK_sF, qK_sK, if_pos rfl]; omega) (fun x hx => by rw [qK_sF, qK_sK, if_neg hx]) (fun _ _ => rfl) (fun _ _ => rfl) (fun f x hx => by rw [qF_sF, if_neg (fun z => hx z.2)]; rfl) (fun x hx => rfl) z1 o1 (fun bk mcn => by
    unfold qAt
    simp only [qK_sF, qK_sK, if_pos, qF_sF]
    refine ⟨fun z => by omega, fun z => by omega, fun z => by omega, fun z => by omega, fun z => by omega, fun z => by omega, fun _ => ⟨0, by simp, ?_⟩, fun z => by omega⟩
    rw [e1, hA]
    rfl)
  exact k H.size key.2 ls H1 _ (k9 + 1) (n9 + 1) h1 key.1 ⟨Nat.le_trans h3.1 (by omega), fun x x1 x2 => (o1 x (Nat.lt_of_lt_of_le x1 h3.1)).trans (h3.2.1 x x1 x2), h3.2.2⟩ (by omega) (by omega)
/-! reading and writing rows -/
theorem V_iald (X : CX E Γ own cc nL) {a : Nat} {i v : Int32} (hk : qK h a = 13 ∨ qK h a = 14) (hin : vp_in i (qI h a).length) (hv : (qI h a).getD i.toNatClampNeg 0 = v) (d : decode cc pc = .ok (.iaload, 1)) (k : V E Γ b h (pc + 1) lv (.int v :: st)) : V E Γ b h pc lv (.int i :: .ref a :: st) := by
  intro ls H locs k9 n9 h1 h2 h3 h4 h5
  have hlt : i.toNatClampNeg < (qI h a).length := Nat.not_le.mp fun q => hin (Or.inr q)
  have hc : H[a]? = some (arrV (eA E 1) (qI h a).length (fun j => .int ((qI h a).getD j 0))) := by
    obtain ⟨bk, mcn, p1, -, -⟩ := h2
    exact (p1 a (by omega)).2.2.2.2.2.1 hk
  exact W.iald (v := .int v) X.1 X.2.1 hc ((X.en.1.2 1 _ rfl).1 _ _) (fun q => by cases q) (by rw [arrV_size]; exact hin) (by rw [arrV_read _ _ hlt, hv]) rfl rfl d (k ls H locs k9 n9 h1 h2 h3 h4 h5)
theorem V_zald (X : CX E Γ own cc nL) {a : Nat} {i v : Int32} (hk : qK h a = 15) (hin : vp_in i (qI h a).length) (hv : (qI h a).getD i.toNatClampNeg 0 = v) (d : decode cc pc = .ok (.baload, 1)) (k : V E Γ b h (pc + 1) lv (.int v :: st)) : V E Γ b h pc lv (.int i :: .ref a :: st) := by
  intro ls H locs k9 n9 h1 h2 h3 h4 h5
  have hlt : i.toNatClampNeg < (qI h a).length := Nat.not_le.mp fun q => hin (Or.inr q)
  have hc : H[a]? = some (arrV (eA E 2) (qI h a).length (fun j => .int ((qI h a).getD j 0))) := by
    obtain ⟨bk, mcn, p1, -, -⟩ := h2
    exact (p1 a (by omega)).2.2.2.2.2.2.1 hk
  exact W.zald (v := .int v) X.1 X.2.1 hc ((X.en.1.2 2 _ rfl).1 _ _) (fun q => by cases q) (by rw [arrV_size]; exact hin) (by rw [arrV_read _ _ hlt, hv]) rfl rfl d (k ls H locs k9 n9 h1 h2 h3 h4 h5)
theorem upd_set (l : List Int32) (i : Nat) (x : Int32) (hi : i < l.length) : updV (fun j => .int (l.getD j 0)) i (.int x) = fun j => Value.int ((l.set i x).getD j 0) := by
  funext j
  unfold updV
  by_cases e : j = i
  · subst e
    rw [if_pos rfl]
    simp [hi]
  · rw [if_neg e]
    simp [List.getElem?_set_ne (Ne.symm e)]
theorem HP.row {E : EV} {h : AH} {H H1 : Heap} {a : Nat} {l : List Int32} (h2 : HP E h H) (hk : 13 ≤ qK h a ∧ qK h a ≤ 15) (e2 : H1.size = H.size) (e3 : ∀ q, q ≠ a → H1[q]? = H[q]?) (e1 : ∀ cA, (qK h a = 15 → cA = eA E 2) → (qK h a ≠ 15 → cA = eA E 1) → H1[a]? = some (arrV cA l.length (fun j => .int (l.getD j 0)))) : HP E (sI h a l) H1 := by
  refine h2.upd (a := a) (by omega) (by omega) rfl rfl rfl (fun g x hx => rfl) (fun x hx => by rw [qI_sI, if_neg hx]) e2 e3 (fun bk mcn z => ?_)
  unfold qAt
  simp only [qK_sI, qI_sI, if_pos]
  exact ⟨fun z => by omega, fun z => by omega, fun z => by omega, fun z => e1 _ (fun y => by omega) (fun _ => rfl), fun z => e1 _ (fun _ => rfl) (fun y => absurd z y), fun z => by omega, fun z => by omega, fun z => by omega⟩
theorem V_iast (X : CX E Γ own cc nL) {a : Nat} {i x : Int32} (hk : qK h a = 13 ∨ qK h a = 14) (hin : vp_in i (qI h a).length) (d : decode cc pc = .ok (.iastore, 1)) (k : V E Γ b (sI h a ((qI h a).set i.toNatClampNeg x)) (pc + 1) lv st) : V E Γ b h pc lv (.int x :: .int i :: .ref a :: st) := by
  intro ls H locs k9 n9 h1 h2 h3 h4 h5
  have hlt : i.toNatClampNeg < (qI h a).length := Nat.not_le.mp fun q => hin (Or.inr q)
  have hq := h2
  obtain ⟨bk, mcn, p1, -, -⟩ := hq
  have hc : H[a]? = some (arrV (eA E 1) (qI h a).length (fun j => .int ((qI h a).getD j 0))) := (p1 a (by omega)).2.2.2.2.2.1 hk
  refine W.iast X.1 X.2.1 hc ((X.en.1.2 1 _ rfl).1 _ _) (fun q => by cases q) (by rw [arrV_size]; exact hin) rfl rfl d fun H1 e z oq => ?_
  refine k ls H1 _ k9 n9 h1 (h2.row (by omega) z oq (fun cA y1 y2 => ?_)) (h3.put z oq (p1 a (by omega)).1) h4 h5
  rw [e, y2 (by omega), arrV_store, upd_set _ _ _ hlt, List.length_set]
theorem V_zast (X : CX E Γ own cc nL) {a : Nat} {i x : Int32} (hk : qK h a = 15) (hx : x = 0 ∨ x = 1) (hin : vp_in i (qI h a).length) (d : decode cc pc = .ok (.bastore, 1)) (k : V E Γ b (sI h a ((qI h a).set i.toNatClampNeg x)) (pc + 1) lv st) : V E Γ b h pc lv (.int x :: .int i :: .ref a :: st) := by
  intro ls H locs k9 n9 h1 h2 h3 h4 h5
  have hlt : i.toNatClampNeg < (qI h a).length := Nat.not_le.mp fun q => hin (Or.inr q)
  have hq := h2
  obtain ⟨bk, mcn, p1, -, -⟩ := hq
  have hc : H[a]? = some (arrV (eA E 2) (qI h a).length (fun j => .int ((qI h a).getD j 0))) := (p1 a (by omega)).2.2.2.2.2.2.1 hk
  have hnar : narrow .boolean (.int x) = .int x := by rcases hx with rfl | rfl <;> decide
  refine W.zast X.1 X.2.1 hc ((X.en.1.2 2 _ rfl).1 _ _) (fun q => by cases q) (by rw [arrV_size]; exact hin) rfl rfl d fun H1 e z oq => ?_
  refine k ls H1 _ k9 n9 h1 (h2.row (by omega) z oq (fun cA y1 y2 => ?_)) (h3.put z oq (p1 a (by omega)).1) h4 h5
  rw [e, hnar, y1 hk, arrV_store, upd_set _ _ _ hlt, List.length_set]
theorem V_lald (X : CX E Γ own cc nL) {a : Nat} {x : Int64} (hk : qK h a = 16) (hv : qF h 1600 a = .long x) (d : decode cc pc = .ok (.laload, 1)) (k : V E Γ b h (pc + 1) lv (.long x :: st)) : V E Γ b h pc lv (.int 0 :: .ref a :: st) := by
  intro ls H locs k9 n9 h1 h2 h3 h4 h5
  have hq := h2
  obtain ⟨bk, mcn, p1, -, -⟩ := hq
  obtain ⟨y, y1, y2⟩ := (p1 a (by omega)).2.2.2.2.2.2.2.1 hk
  rw [hv] at y1
  cases y1
  exact W.lald (v := .long x) X.1 X.2.1 y2 ((X.en.1.2 3 _ rfl).1 _ _) (fun q => by cases q) (by rw [arrV_size]; decide) (by rw [arrV_read _ _ (by decide)]) rfl rfl d (k ls H locs k9 n9 h1 h2 h3 h4 h5)
theorem V_dald (X : CX E Γ own cc nL) {a : Nat} {x : UInt64} (hk : qK h a = 17) (hv : qF h 1700 a = .double x) (d : decode cc pc = .ok (.daload, 1)) (k : V E Γ b h (pc + 1) lv (.double x :: st)) : V E Γ b h pc lv (.int 0 :: .ref a :: st) := by
  intro ls H locs k9 n9 h1 h2 h3 h4 h5
  have hq := h2
  obtain ⟨bk, mcn, p1, -, -⟩ := hq
  obtain ⟨y, y1, y2⟩ := (p1 a (by omega)).2.2.2.2.2.2.2.2.1 hk
  rw [hv] at y1
  cases y1
  exact W.dald (v := .double x) X.1 X.2.1 y2 ((X.en.1.2 4 _ rfl).1 _ _) (fun q => by cases q) (by rw [arrV_size]; decide) (by rw [arrV_read _ _ (by decide)]) rfl rfl d (k ls H locs k9 n9 h1 h2 h3 h4 h5)
theorem upd_one {cA : ClassId} (x y : Value) : arrV cA 1 (updV (fun _ => x) 0 y) = arrV cA 1 (fun _ => y) := by
  unfold arrV
  congr 1
theorem V_last (X : CX E Γ own cc nL) {a : Nat} {x : Int64} (hk : qK h a = 16) (d : decode cc pc = .ok (.lastore, 1)) (k : V E Γ b (sF h 1600 a (.long x)) (pc + 1) lv st) : V E Γ b h pc lv (.long x :: .int 0 :: .ref a :: st) := by
  intro ls H locs k9 n9 h1 h2 h3 h4 h5
  have hq := h2
  obtain ⟨bk, mcn, p1, -, -⟩ := hq
  obtain ⟨y, y1, y2⟩ := (p1 a (by omega)).2.2.2.2.2.2.2.1 hk
  refine W.last X.1 X.2.1 y2 ((X.en.1.2 3 _ rfl).1 _ _) (fun q => by cases q) (by rw [arrV_size]; decide) rfl rfl d fun H1 e z oq => ?_
  refine k ls H1 _ k9 n9 h1 (h2.upd (a := a) (by omega) (by omega) rfl rfl rfl (fun g x hx => by rw [qF_sF, if_neg (fun z => hx z.2)]) (fun _ _ => rfl) z oq (fun bk mcn z => ?_)) (h3.put z oq (p1 a (by omega)).1) h4 h5
  unfold qAt
  simp only [qK_sF, hk, qF_sF]
  refine ⟨fun z => by omega, fun z => by omega, fun z => by omega, fun z => by omega, fun z => by omega, fun _ => ⟨x, by simp, ?_⟩, fun z => by omega, fun z => by omega⟩
  rw [e, arrV_store]
  exact congrArg some (upd_one _ _)
theorem V_dast (X : CX E Γ own cc nL) {a : Nat} {x : UInt64} (hk : qK h a = 17) (d : decode cc pc = .ok (.dastore, 1)) (k : V E Γ b (sF h 1700 a (.double x)) (pc + 1) lv st) : V E Γ b h pc lv (.double x :: .int 0 :: .ref a :: st) := by
  intro ls H locs k9 n9 h1 h2 h3 h4 h5
  have hq := h2
  obtain ⟨bk, mcn, p1, -, -⟩ := hq
  obtain ⟨y, y1, y2⟩ := (p1 a (by omega)).2.2.2.2.2.2.2.2.1 hk
  refine W.dast X.1 X.2.1 y2 ((X.en.1.2 4 _ rfl).1 _ _) (fun q => by cases q) (by rw [arrV_size]; decide) rfl rfl d fun H1 e z oq => ?_
  refine k ls H1 _ k9 n9 h1 (h2.upd (a := a) (by omega) (by omega) rfl rfl rfl (fun g x hx => by rw [qF_sF, if_neg (fun z => hx z.2)]) (fun _ _ => rfl) z oq (fun bk mcn z => ?_)) (h3.put z oq (p1 a (by omega)).1) h4 h5
  unfold qAt
  simp only [qK_sF, hk, qF_sF]
  refine ⟨fun z => by omega, fun z => by omega, fun z => by omega, fun z => by omega, fun z => by omega, fun z => by omega, fun _ => ⟨x, by simp, ?_⟩, fun z => by omega⟩
  rw [e, arrV_store]
  exact congrArg some (upd_one _ _)
/-- a cast of an object to its own class -/
theorem V_cast (X : CX E Γ own cc nL) {ci index a N : Nat} {C : String} {T : u_T} {ty0 : Nat → FieldType} (c : CLK ci C T N ty0) (hci : ci ≤ 9) (hw : Cond.classLink own index C ∈ WS) (hk : qK h a = ci + 1) (d : decode cc pc = .ok (.checkcast index, 3)) (k : V E Γ b h (pc + 3) lv (.ref a :: st)) : V E Γ b h pc lv (.ref a :: st) := by
  intro ls H locs k9 n9 h1 h2 h3 h4 h5
  have hKn := X.en.1.1 _ _ c.1
  obtain ⟨cell, q1, q2, q3, q4⟩ := h2.obj hk hci
  exact va_castS X.1 X.2.1 X.ow (X.ts _ hw) hKn.2 ⟨cell, q1, by rw [q3]; rfl, by rw [q2]; exact hKn.2.1⟩ d (k ls H locs k9 n9 h1 h2 h3 h4 h5)
end VH
