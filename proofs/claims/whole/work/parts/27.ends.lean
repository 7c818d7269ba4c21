/-! ENDS -/
def te (e : Nat) : Value := .ref (20 + e)
/-- an operation that is kept: whether it inserted, its letter, its place -/
abbrev KO : Type := Nat × Nat × Nat
def KP (la : Nat → Nat) (h : AH) (a : Nat) (o : KO) : Prop := qK h a = 4 ∧ qF h 300 a = .int (nI o.1) ∧ qF h 301 a = .ref (la o.2.1) ∧ qF h 302 a = .int (nI o.2.2)
theorem KP.fr {la : Nat → Nat} {S : Nat → Prop} {h h' : AH} {a : Nat} {o : KO} (z : KP la h a o) (F : Fr S h h') (hs : ¬ S a) : KP la h' a o := by
  obtain ⟨z1, z2, z3, z4⟩ := z
  have h0 : qK h a ≠ 0 := by omega
  exact ⟨F.K z1 (by decide), F.F h0 hs z2, F.F h0 hs z3, F.F h0 hs z4⟩
def KPs (la : Nat → Nat) (h : AH) (R : List Nat) (O : List KO) : Prop := R.length = O.length ∧ ∀ (j r : Nat) (o : KO), R[j]? = some r → O[j]? = some o → KP la h r o
theorem KPs.fr {la : Nat → Nat} {S : Nat → Prop} {h h' : AH} {R : List Nat} {O : List KO} (z : KPs la h R O) (F : Fr S h h') (hs : ∀ r ∈ R, ¬ S r) : KPs la h' R O := ⟨z.1, fun j r o x y => (z.2 j r o x y).fr F (hs r (List.mem_of_getElem? x))⟩
theorem KPs.at {la : Nat → Nat} {h : AH} {R : List Nat} {O : List KO} (z : KPs la h R O) {i : Nat} (hi : i < R.length) : ∃ r o, R[i]? = some r ∧ O[i]? = some o ∧ KP la h r o := ⟨R[i], O[i]'(by rw [← z.1]; exact hi), List.getElem?_eq_getElem hi, List.getElem?_eq_getElem _, z.2 i _ _ (List.getElem?_eq_getElem hi) (List.getElem?_eq_getElem _)⟩
theorem KPs.kind {la : Nat → Nat} {h : AH} {R : List Nat} {O : List KO} (z : KPs la h R O) {r : Nat} (hr : r ∈ R) : qK h r = 4 := by
  obtain ⟨j, hj⟩ := List.mem_iff_getElem?.mp hr
  have hlt : j < R.length := (List.getElem?_eq_some_iff.mp hj).1
  exact (z.2 j r (O[j]'(by rw [← z.1]; exact hlt)) hj (List.getElem?_eq_getElem _)).1
def mvk (o : SO) (k : KO) : KO := if k.1 = 0 then (k.1, k.2.1, mvp o k.2.2) else k
/-- end e: g 0 the object, g 1 its text, g 2 .. g 6 its lists (sent, waiting, up, down, kept), g 7 the list of its text -/
def ES (h : AH) (e : Nat) (g : Nat → Nat) : Prop :=
  qK h (g 0) = 3 ∧ qF h 200 (g 0) = .int (nI e) ∧ (∀ i, 1 ≤ i → i ≤ 6 → qF h (200 + i) (g 0) = .ref (g i)) ∧ qK h (g 1) = 8 ∧ (∀ i, 2 ≤ i → i ≤ 7 → qK h (g i) = 11) ∧ (∀ i j, 2 ≤ i → i < j → j ≤ 7 → g i ≠ g j) ∧ (∀ i, i ≤ 7 → own h (g i) = te e)
theorem ES.fr {h h' : AH} {e : Nat} {g : Nat → Nat} {S : Nat → Prop} (z : ES h e g) (F : Fr S h h') (hs : ¬ S (g 0)) : ES h' e g := by
  obtain ⟨z1, z2, z3, z4, z5, z6, z7⟩ := z
  have h0 : qK h (g 0) ≠ 0 := by omega
  refine ⟨F.K z1 (by decide), F.F h0 hs z2, fun i a b => F.F h0 hs (z3 i a b), F.K z4 (by decide), fun i a b => F.K (z5 i a b) (by decide), z6, fun i a => F.O ?_ (z7 i a)⟩
  rcases (show i = 0 ∨ i = 1 ∨ (2 ≤ i ∧ i ≤ 7) by omega) with rfl | rfl | ⟨a, b⟩
  · omega
  · omega
  · have := z5 i a b; omega
theorem ES.sF {h : AH} {e f a : Nat} {g : Nat → Nat} {v : Value} (z : ES h e g) (hf : 207 ≤ f ∧ f < 9999) : ES (sF h f a v) e g := by
  obtain ⟨z1, z2, z3, z4, z5, z6, z7⟩ := z
  exact ⟨z1, by rw [qF_sF, if_neg (fun y => by omega)]; exact z2, fun i a b => by rw [qF_sF, if_neg (fun y => by omega)]; exact z3 i a b, z4, z5, z6, fun i a => by unfold own; rw [qF_sF, if_neg (fun y => by omega)]; exact z7 i a⟩
theorem c_ecarry {E : EV} {la : Nat → Nat} {h : AH} {e a c : Nat} {g : Nat → Nat} {xs R : List Nat} {K : List KO} {o : SO} (hE : ES h e g) (hx : TX la h (g 1) (g 7) xs c) (hL : qL h (g 6) = R) (hK : KPs la h R K) (nd : R.Nodup) (ho : OP la h a o) (hl5 : o.1 = 1 → qK h (la o.2.2.1) = 5) (hxs : ∀ x ∈ xs, qK h (la x) = 5) (hk : o.1 ≤ 2) (hk0 : o.1 ≠ 0) (hp : o.2.1 < 2 ^ 29) (hl : xs.length ≤ 200) (hc : c ≤ 301) (hw : ∀ k ∈ K, k.1 ≤ 1 ∧ k.2.2 < 2 ^ 29) (hRl : R.length < 2 ^ 29) : Ct E yX2_carryOut cX2_carryOut 4 none 9 101 [.ref (g 0), .ref a] h (fun v h1 => v = none ∧ TX la h1 (g 1) (g 7) (apO o xs) (caO o xs c) ∧ KPs la h1 R (K.map (mvk o)) ∧ Fr (fun b => b = g 7 ∨ b ∈ R) h h1) noX := by
  refine Ct_of RX2 (by decide +kernel) rfl (Nat.le_of_ble_eq_true rfl) (fun Γ X nt Q hin => ?_)
  refine V_aload_n (pc := 0) X 0 dX2_carryOut_0 rfl ?_
  refine V_get (pc := 1) X fl_X2_10 dX2_carryOut_1 hE.1 (hE.2.2.1 1 (by decide) (by decide)) ?_
  refine V_aload_n (pc := 4) X 1 dX2_carryOut_4 rfl ?_
  refine V_callV (pc := 5) X clk7 (by decide) hx.1 _ (c_tcarry hx ho hl5 hxs hk hp (by omega) (by omega)) cw_X2_105 (Q.room (by decide) (by decide)) rfl (Nat.le_of_ble_eq_true rfl) rfl (caO_inc hl) dX2_carryOut_5 (fun _ _ z => z.elim) ?_
  rintro v5 h5 ⟨rfl, t1, t2⟩
  simp only [Option.toList_none, List.nil_append]
  refine V.less (b' := 0) (Nat.zero_le _) ?_
  have hKR := hK.1
  have n60 : g 6 ≠ g 7 := hE.2.2.2.2.2.1 6 7 (by decide) (by decide) (by decide)
  have k6 := hE.2.2.2.2.1 6 (by decide) (by decide)
  have k7 := hE.2.2.2.2.1 7 (by decide) (by decide)
  have n0 : ¬ (g 0 = g 7 ∨ g 0 ∈ R) := fun z => z.elim (fun z => by have := hE.1; rw [z] at this; omega) (fun z => by have := hK.kind z; have := hE.1; omega)
  have n1 : ¬ (g 1 = g 7 ∨ g 1 ∈ R) := fun z => z.elim (fun z => by have := hE.2.2.2.1; rw [z] at this; omega) (fun z => by have := hK.kind z; have := hE.2.2.2.1; omega)
  have n6 : ¬ (g 6 = g 7 ∨ g 6 ∈ R) := fun z => z.elim n60 (fun z => by have := hK.kind z; omega)
  have na : ¬ (a = g 7 ∨ a ∈ R) := fun z => z.elim (fun z => by have := ho.1; rw [z] at this; omega) (fun z => by have := hK.kind z; have := ho.1; omega)
  have n7 : g 7 ∉ R := fun z => by have := hK.kind z; omega
  refine V_iconst (pc := 8) (v := 0) X dX2_carryOut_8 (by decide) ?_
  refine V_istore_n (pc := 9) X [(2, .int _), (0, .ref _), (1, .ref _)] dX2_carryOut_9 rfl (by decide) rfl ?_
  have key : ∀ (n i : Nat), R.length - i < n → i ≤ R.length → ∀ hr : AH, (∀ (j r : Nat) (k : KO), R[j]? = some r → K[j]? = some k → KP la hr r (if j < i then mvk o k else k)) → TX la hr (g 1) (g 7) (apO o xs) (caO o xs c) → Fr (fun b => b = g 7 ∨ b ∈ R) h hr → V E Γ 0 hr 10 [(2, .int (nI i)), (0, .ref (g 0)), (1, .ref a)] [] := by
    intro n
    induction n with
    | zero => exact fun i hn => absurd hn (Nat.not_lt_zero _)
    | succ n ih =>
      intro i hn hi hr r1 r2 r3
      have hE1 := hE.fr r3 n0
      have ho1 := ho.fr r3 na
      have hk6 := r3.K k6 (by decide)
      have hL1 : qL hr (g 6) = R := (r3.L (by omega) n6).trans hL
      refine V_iload_n (pc := 10) X 0 dX2_carryOut_10 rfl ?_
      refine V_aload_n (pc := 11) X 1 dX2_carryOut_11 rfl ?_
      refine V_get (pc := 12) X fl_X2_32 dX2_carryOut_12 hE1.1 (hE1.2.2.1 6 (by decide) (by decide)) ?_
      refine V_callL (pc := 15) X (Or.inl hk6) _ (c_size hk6) cw_X2_84 (Q.room (by decide) (by decide)) rfl (Nat.le_of_ble_eq_true rfl) rfl (by omega) dX2_carryOut_15 (fun _ _ z => z.elim) ?_
      rintro v15 h15 ⟨rfl, rfl⟩
      simp only [Option.toList_some, List.cons_append, List.nil_append]
      rw [hL1]
      refine V_icmp_ge (pc := 18) X 58 dX2_carryOut_18 (by decide) (fun c18 => ?_) (fun c18 => ?_)
      · have hie : ¬ i < R.length := fun z => nI_ge z (by omega) c18
        refine V_vret (pc := 58) X Q rfl dX2_carryOut_58 ?_
        refine ⟨rfl, r2, ⟨by rw [List.length_map]; exact hKR, fun j r k' x y => ?_⟩, r3⟩
        rw [List.getElem?_map] at y
        obtain ⟨k, h1, h2⟩ := Option.map_eq_some_iff.mp y
        have := r1 j r k x h1
        have hj := (List.getElem?_eq_some_iff.mp x).1
        rw [if_pos (by omega), h2] at this
        exact this
      · have hlt : i < R.length := by
          rcases Nat.lt_or_ge i (R.length) with z | z
          · exact z
          · exact absurd (nI_le z (by omega)) c18
        obtain ⟨r, k, hr1, hk1, -⟩ := hK.at hlt
        have kp := r1 i r k hr1 hk1
        rw [if_neg (Nat.lt_irrefl _)] at kp
        have hw1 := hw k (List.mem_of_getElem? hk1)
        refine V_aload_n (pc := 21) X 1 dX2_carryOut_21 rfl ?_
        refine V_get (pc := 22) X fl_X2_32 dX2_carryOut_22 hE1.1 (hE1.2.2.1 6 (by decide) (by decide)) ?_
        refine V_iload_n (pc := 25) X 0 dX2_carryOut_25 rfl ?_
        refine V_callL (pc := 26) X (Or.inl hk6) _ (c_get (i := i) (x := r) hk6 (by rw [hL1]; exact hr1) (by rw [hL1]; omega)) cw_X2_87 (Q.room (by decide) (by decide)) rfl (Nat.le_of_ble_eq_true rfl) rfl (by omega) dX2_carryOut_26 (fun _ _ z => z.elim) ?_
        rintro v26 h26 ⟨rfl, rfl⟩
        simp only [Option.toList_some, List.cons_append, List.nil_append]
        refine V_cast (pc := 29) X clk3 (by decide) ck_X2_106 kp.1 dX2_carryOut_29 ?_
        refine V_astore_n (pc := 32) X [(3, .ref _), (2, .int _), (0, .ref _), (1, .ref _)] dX2_carryOut_32 rfl (by decide) rfl ?_
        refine V_aload_n (pc := 33) X 0 dX2_carryOut_33 rfl ?_
        refine V_get (pc := 34) X fl_X2_108 dX2_carryOut_34 kp.1 kp.2.1 ?_
        refine V_if_ne (pc := 37) X 52 dX2_carryOut_37 (by decide) (fun c37 => ?_) (fun c37 => ?_)
        · have e0 : k.1 ≠ 0 := fun z => c37 (by rw [z]; rfl)
          have ek : mvk o k = k := if_neg e0
          refine V_inc1 (pc := 52) X 1 [(2, .int _), (3, .ref _), (0, .ref _), (1, .ref _)] dX2_carryOut_52 rfl (by decide) rfl ?_
          rw [nI_1]
          refine V_goto (pc := 55) X 10 dX2_carryOut_55 (by decide) ?_
          refine V.sub [0, 2, 3] rfl ?_
          refine ih (i + 1) (by omega) (by omega) _ (fun j r' k' x y => ?_) r2 r3
          by_cases ej : j = i
          · subst ej
            rw [hr1] at x; cases x
            rw [hk1] at y; cases y
            rw [if_pos (by omega), ek]; exact kp
          · have z := r1 j r' k' x y
            rw [show (if j < i + 1 then mvk o k' else k') = if j < i then mvk o k' else k' by
              by_cases u : j < i
              · rw [if_pos u, if_pos (by omega)]
              · rw [if_neg u, if_neg (by omega)]]
            exact z
        · have e0 : k.1 = 0 := (nI_eq (b := 0) (by omega) (by decide)).mp c37
          have ek : mvk o k = (k.1, k.2.1, mvp o k.2.2) := if_pos e0
          refine V_aload_n (pc := 40) X 0 dX2_carryOut_40 rfl ?_
          refine V_aload_n (pc := 41) X 3 dX2_carryOut_41 rfl ?_
          refine V_aload_n (pc := 42) X 0 dX2_carryOut_42 rfl ?_
          refine V_get (pc := 43) X fl_X2_112 dX2_carryOut_43 kp.1 kp.2.2.2 ?_
          refine V_callV (pc := 46) X clk6 (by decide) ho1.1 _ (c_move (k := o.1) (p := o.2.1) (x := o.2.2.1) (w := o.2.2.2) ho1 hk hk0 (by omega) (by omega)) cw_X2_58 (Q.room (by decide) (by decide)) rfl (Nat.le_of_ble_eq_true rfl) rfl (by omega) dX2_carryOut_46 (fun _ _ z => z.elim) ?_
          rintro v46 h46 ⟨rfl, rfl⟩
          simp only [Option.toList_some, List.cons_append, List.nil_append]
          refine V_put (pc := 49) X fl_X2_112 dX2_carryOut_49 kp.1 ⟨rfl, rfl⟩ ?_
          refine V_inc1 (pc := 52) X 1 [(2, .int _), (3, .ref _), (0, .ref _), (1, .ref _)] dX2_carryOut_52 rfl (by decide) rfl ?_
          rw [nI_1]
          refine V_goto (pc := 55) X 10 dX2_carryOut_55 (by decide) ?_
          refine V.sub [0, 2, 3] rfl ?_
          have hrR : r ∈ R := List.mem_of_getElem? hr1
          refine ih (i + 1) (by omega) (by omega) _ (fun j r' k' x y => ?_) (r2.fr (Fr_sF (S := fun b => b = r) rfl) (fun z => n1 (Or.inr (by rw [z]; exact hrR))) (fun z => n7 (by rw [z]; exact hrR))) (r3.seq (Fr_sF (Or.inr hrR)))
          by_cases ej : j = i
          · subst ej
            rw [hr1] at x; cases x
            rw [hk1] at y; cases y
            rw [if_pos (by omega), ek]
            exact ⟨kp.1, by rw [qF_sF, if_neg (fun z => by omega)]; exact kp.2.1, by rw [qF_sF, if_neg (fun z => by omega)]; exact kp.2.2.1, by rw [qF_sF, if_pos ⟨rfl, rfl⟩]⟩
          · have z := r1 j r' k' x y
            have hne : r' ≠ r := fun w => ej ((List.getElem?_inj (List.getElem?_eq_some_iff.mp x).1 nd).mp (by rw [x, hr1, w]))
            rw [show (if j < i + 1 then mvk o k' else k') = if j < i then mvk o k' else k' by
              by_cases u : j < i
              · rw [if_pos u, if_pos (by omega)]
              · rw [if_neg u, if_neg (by omega)]]
            exact z.fr (Fr_sF (S := fun b => b = r) rfl) hne
  exact key (R.length + 1) 0 (by omega) (Nat.zero_le _) _ (fun j r k x y => (hK.2 j r k x y).fr t2 (fun z => n7 (by rw [← z]; exact List.mem_of_getElem? x))) t1 (t2.mono (fun _ _ z => Or.inl z))
