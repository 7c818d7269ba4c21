/-! THE CENTRE -/
/-- a message: its end, its revision, its operations -/
abbrev MG : Type := Nat × Nat × List SO
def trl (O Q : List SO) : List SO := Q.foldl crs O
def entR (O : List SO) (H : List MG) : List SO := H.foldl (fun O x => trl O x.2.2) O
theorem trl_succ {O Q : List SO} {i : Nat} {o : SO} (h : Q[i]? = some o) : trl O (Q.take (i + 1)) = crs (trl O (Q.take i)) o := by
  unfold trl
  rw [List.take_add_one, h, List.foldl_append]
  rfl
theorem trl_len (O Q : List SO) : (trl O Q).length = O.length := by
  unfold trl
  induction Q generalizing O with
  | nil => rfl
  | cons b Q ih => exact (ih (crs O b)).trans (crs_len O b)
theorem entR_succ {O : List SO} {H : List MG} {i : Nat} {x : MG} (h : H[i]? = some x) : entR O (H.take (i + 1)) = trl (entR O (H.take i)) x.2.2 := by
  unfold entR
  rw [List.take_add_one, h, List.foldl_append]
  rfl
theorem entR_len (O : List SO) (H : List MG) : (entR O H).length = O.length := by
  unfold entR
  induction H generalizing O with
  | nil => rfl
  | cons b H ih => exact (ih (trl O b.2.2)).trans (trl_len O b.2.2)
/-- the centre: gc 0 the object, gc 1 its text, gc 2 its history, gc 3 the list of its text -/
def CE (la : Nat → Nat) (h : AH) (gc : Nat → Nat) (xs : List Nat) : Prop := qK h (gc 0) = 1 ∧ qF h 0 (gc 0) = .ref (gc 1) ∧ qF h 1 (gc 0) = .ref (gc 2) ∧ (∃ c, TX la h (gc 1) (gc 3) xs c ∧ c ≤ 301) ∧ qK h (gc 2) = 11 ∧ qC h (gc 2) ≤ 301 ∧ gc 2 ≠ gc 3 ∧ ∀ i, i ≤ 3 → own h (gc i) = te 2
theorem CE.fr {la : Nat → Nat} {h h' : AH} {gc : Nat → Nat} {xs : List Nat} {S : Nat → Prop} (z : CE la h gc xs) (F : Fr S h h') (hs : ∀ i, i ≤ 3 → ¬ S (gc i)) : CE la h' gc xs := by
  obtain ⟨z1, z2, z3, ⟨c, z4, z5⟩, z6, z7, z8, z9⟩ := z
  refine ⟨F.K z1 (by decide), F.F (by omega) (hs 0 (by decide)) z2, F.F (by omega) (hs 0 (by decide)) z3, ⟨c, z4.fr F (hs 1 (by decide)) (hs 3 (by decide)), z5⟩, F.K z6 (by decide), by rw [F.C (by omega) (hs 2 (by decide))]; exact z7, z8, fun i a => F.O ?_ (z9 i a)⟩
  rcases (show i = 0 ∨ i = 1 ∨ i = 2 ∨ i = 3 by omega) with rfl | rfl | rfl | rfl
  · omega
  · rw [z4.1]; decide
  · omega
  · rw [z4.2.2.1]; decide
def HS (la : Nat → Nat) (h : AH) (Hs : List Nat) (H : List MG) : Prop := Hs.length = H.length ∧ ∀ (j m : Nat) (x : MG), Hs[j]? = some m → H[j]? = some x → MS la h m x.1 x.2.1 x.2.2
theorem HS.at {la : Nat → Nat} {h : AH} {Hs : List Nat} {H : List MG} (z : HS la h Hs H) {i : Nat} (hi : i < Hs.length) : ∃ m x, Hs[i]? = some m ∧ H[i]? = some x ∧ MS la h m x.1 x.2.1 x.2.2 := ⟨Hs[i], H[i]'(by rw [← z.1]; exact hi), List.getElem?_eq_getElem hi, List.getElem?_eq_getElem _, z.2 i _ _ (List.getElem?_eq_getElem hi) (List.getElem?_eq_getElem _)⟩
theorem MS.k {la : Nat → Nat} {h : AH} {m e rv : Nat} {O : List SO} (z : MS la h m e rv O) : qK h m = 6 := by obtain ⟨ol, R, z1, -⟩ := z; exact z1.1
theorem MS.o {la : Nat → Nat} {h : AH} {m e rv : Nat} {O : List SO} (z : MS la h m e rv O) : own h m = .ref 35 := by obtain ⟨ol, R, z1, -⟩ := z; exact z1.2.2.2.2.1
theorem HS.k {la : Nat → Nat} {h : AH} {Hs : List Nat} {H : List MG} (z : HS la h Hs H) {m : Nat} (hm : m ∈ Hs) : qK h m = 6 ∧ own h m = .ref 35 := by
  obtain ⟨j, hj⟩ := List.mem_iff_getElem?.mp hm
  have hlt : j < Hs.length := (List.getElem?_eq_some_iff.mp hj).1
  have := z.2 j m (H[j]'(by rw [← z.1]; exact hlt)) hj (List.getElem?_eq_getElem _)
  exact ⟨this.k, this.o⟩
theorem HS.fr {la : Nat → Nat} {h h' : AH} {Hs : List Nat} {H : List MG} {S : Nat → Prop} (z : HS la h Hs H) (F : Fr S h h') (hs : ∀ a, own h a = .ref 35 → ¬ S a) (ht : ∀ m ∈ Hs, ∀ a, own h a = .ref (40 + m) → ¬ S a) : HS la h' Hs H := ⟨z.1, fun j m x a b => (z.2 j m x a b).fr F (hs m (z.2 j m x a b).o) (ht m (List.mem_of_getElem? a))⟩
theorem c_transAll {E : EV} {la : Nat → Nat} {dm : Nat → Prop} {h : AH} {rl ol : Nat} {R Ro : List Nat} {O Y : List SO} (hk : qK h rl = 11) (hL : qL h rl = R) (hO : OPs la h R O) (nd : R.Nodup) (hk2 : qK h ol = 11) (hL2 : qL h ol = Ro) (hQ : OPs la h Ro Y) (dj : ∀ r ∈ R, r ∉ Ro) (hw : ∀ i, i ≤ Y.length → ∀ o ∈ trl O (Y.take i), wO dm o) (wQ : ∀ o ∈ Y, wO dm o) (hOl : O.length ≤ 200) (hQl : Y.length ≤ 200) : Ct E yX0_transformAll cX0_transformAll 3 none 7 (3 * Y.length) [.ref rl, .ref ol] h (fun v h1 => v = none ∧ OPs la h1 R (trl O Y) ∧ Fr (fun a => a ∈ R) h h1) noX := by
  refine Ct_of RX0 (by decide +kernel) rfl (Nat.le_of_ble_eq_true rfl) (fun Γ X nt Q hin => ?_)
  refine V_iconst (pc := 0) (v := 0) X dX0_transformAll_0 (by decide) ?_
  refine V_istore_n (pc := 1) X [(2, .int _), (0, .ref _), (1, .ref _)] dX0_transformAll_1 rfl (by decide) rfl ?_
  have key : ∀ (n i : Nat), Y.length - i < n → i ≤ Y.length → ∀ hr : AH, OPs la hr R (trl O (Y.take i)) → Fr (fun a => a ∈ R) h hr → V E Γ (3 * (Y.length - i)) hr 2 [(2, .int (nI i)), (0, .ref rl), (1, .ref ol)] [] := by
    intro n
    induction n with
    | zero => exact fun i hn => absurd hn (Nat.not_lt_zero _)
    | succ n ih =>
      intro i hn hi hr r1 r2
      have nl : ∀ l, qK h l = 11 → l ∉ R := fun l hl y => by have := hO.kind y; omega
      have k1 := r2.K hk (by decide)
      have k2 := r2.K hk2 (by decide)
      have L1 := (r2.L (by omega) (nl _ hk)).trans hL
      have L2 := (r2.L (by omega) (nl _ hk2)).trans hL2
      have Q1 := hQ.fr r2 (fun r hr y => dj r y hr)
      have hRQ := hQ.1
      refine V_iload_n (pc := 2) X 0 dX0_transformAll_2 rfl ?_
      refine V_aload_n (pc := 3) X 2 dX0_transformAll_3 rfl ?_
      refine V_callL (pc := 4) X (Or.inl k2) _ (c_size k2) cw_X0_29 (Q.room (by decide) (by decide)) rfl (Nat.le_of_ble_eq_true rfl) rfl (by omega) dX0_transformAll_4 (fun _ _ z => z.elim) ?_
      rintro v4 h4 ⟨rfl, e4⟩
      rw [e4, L2, hRQ]
      simp only [Option.toList_some, List.cons_append, List.nil_append]
      refine V_icmp_ge (pc := 7) X 31 dX0_transformAll_7 (by decide) (fun c7 => ?_) (fun c7 => ?_)
      · have hie : ¬ i < Y.length := fun z => nI_ge z (by omega) c7
        refine V_vret (pc := 31) X Q rfl dX0_transformAll_31 ?_
        have hii : i = Y.length := by omega
        subst hii
        rw [List.take_length] at r1
        exact ⟨rfl, r1, r2⟩
      · have hlt : i < Y.length := by
          rcases Nat.lt_or_ge i (Y.length) with z | z
          · exact z
          · exact absurd (nI_le z (by omega)) c7
        obtain ⟨r, o, hr1, ho1, ho⟩ := Q1.at (i := i) (by omega)
        have woo := wQ o (List.mem_of_getElem? ho1)
        unfold wO at woo
        refine V_aload_n (pc := 10) X 1 dX0_transformAll_10 rfl ?_
        refine V_aload_n (pc := 11) X 2 dX0_transformAll_11 rfl ?_
        refine V_iload_n (pc := 12) X 0 dX0_transformAll_12 rfl ?_
        refine V_callL (pc := 13) X (Or.inl k2) _ (c_get (i := i) (x := r) k2 (by rw [L2]; exact hr1) (by rw [L2]; omega)) cw_X0_36 (Q.room (by decide) (by decide)) rfl (Nat.le_of_ble_eq_true rfl) rfl (by omega) dX0_transformAll_13 (fun _ _ z => z.elim) ?_
        rintro v13 h13 ⟨rfl, e13⟩
        rw [e13]
        simp only [Option.toList_some, List.cons_append, List.nil_append]
        refine V_cast (pc := 16) X clk6 (by decide) ck_X0_52 ho.1 dX0_transformAll_16 ?_
        refine V_callV (pc := 19) X clk6 (by decide) ho.1 _ (c_copy (k := o.1) (p := o.2.1) (x := o.2.2.1) (w := o.2.2.2) ho) cw_X0_54 (Q.room (by decide) (by decide)) rfl (Nat.le_of_ble_eq_true rfl) rfl (by omega) dX0_transformAll_19 (fun _ _ z => z.elim) ?_
        rintro v19 h19 ⟨q, rfl, q0, oq, Fq⟩
        simp only [Option.toList_some, List.cons_append, List.nil_append]
        have Fh : Fr (fun _ => False) hr h19 := Fq _
        have k3 := Fh.K k1 (by decide)
        have L3 := (Fh.L (by omega) (fun y => y)).trans L1
        have R3 := r1.fr Fh (fun _ _ y => y)
        have qR : q ∉ R := fun y => by have := r1.kind y; omega
        have w1 : ∀ o ∈ trl O (Y.take i), o.1 ≤ 2 ∧ o.2.1 < 2 ^ 29 ∧ o.2.2.2 < 2 ^ 30 := fun o ho => by have := hw i (by omega) o ho; unfold wO at this; omega
        refine V_callS (pc := 22) X _ (c_trRow k3 L3 R3 oq nd qR w1 ⟨woo.1, (by omega : o.2.1 < 2 ^ 29), (by omega : o.2.2.2 < 2 ^ 30)⟩ (by rw [trl_len]; omega)) cw_X0_58 (Q.room (by decide) (by decide)) rfl (Nat.le_of_ble_eq_true rfl) rfl (by omega) dX0_transformAll_22 (fun _ _ z => z.elim) ?_
        rintro v22 h22 ⟨rfl, y1, y2, y3⟩
        simp only [Option.toList_none, List.nil_append]
        refine V_inc1 (pc := 25) X 0 [(2, .int _), (0, .ref _), (1, .ref _)] dX0_transformAll_25 rfl (by decide) rfl ?_
        rw [nI_1]
        refine V_goto (pc := 28) X 2 dX0_transformAll_28 (by decide) ?_
        refine V.less (b' := 3 * (Y.length - (i + 1))) (by omega) ?_
        refine ih (i + 1) (by omega) (by omega) _ (by rw [trl_succ ho1]; exact y1) ?_
        refine r2.trans (Fh.trans y3 (U := fun a => a ∈ R ∨ a = q) (fun _ _ y => y.elim) (fun _ _ y => y)) (fun _ _ y => y) (fun a ha y => y.elim (fun y => y) (fun y => ?_))
        have := r2.K (a := a) rfl ha
        rw [y, q0] at this
        exact absurd (by rw [y]; exact this.symm) ha
  exact key (Y.length + 1) 0 (by omega) (Nat.zero_le _) _ hO (Fr.refl _ _)
theorem c_count {E : EV} {la : Nat → Nat} {h : AH} {gc : Nat → Nat} {xs Hs : List Nat} {H : List MG} (z : CE la h gc xs) (hL : qL h (gc 2) = Hs) (hH : HS la h Hs H) (hl : Hs.length ≤ 200) (hO : ∀ x ∈ H, x.2.2.length ≤ 200) : Ct E yX0_countOperations cX0_countOperations 3 (some .int) 4 0 [.ref (gc 0)] h (fun v h1 => v = some (.int (nI (H.map (fun x => x.2.2.length)).sum)) ∧ h1 = h) noX := by
  refine Ct_of RX0 (by decide +kernel) rfl (Nat.le_of_ble_eq_true rfl) (fun Γ X nt Q hin => ?_)
  have hHl := hH.1
  refine V_iconst (pc := 0) (v := 0) X dX0_countOperations_0 (by decide) ?_
  refine V_istore_n (pc := 1) X [(1, .int _), (0, .ref _)] dX0_countOperations_1 rfl (by decide) rfl ?_
  refine V_iconst (pc := 2) (v := 0) X dX0_countOperations_2 (by decide) ?_
  refine V_istore_n (pc := 3) X [(2, .int _), (1, .int _), (0, .ref _)] dX0_countOperations_3 rfl (by decide) rfl ?_
  have key : ∀ (n i : Nat), Hs.length - i < n → i ≤ Hs.length → ∀ s : Nat, s = ((H.take i).map (fun x => x.2.2.length)).sum → s ≤ 200 * i → V E Γ 0 h 4 [(2, .int (nI i)), (1, .int (nI s)), (0, .ref (gc 0))] [] := by
    intro n
    induction n with
    | zero => exact fun i hn => absurd hn (Nat.not_lt_zero _)
    | succ n ih =>
      intro i hn hi s r1 r2
      refine V_iload_n (pc := 4) X 0 dX0_countOperations_4 rfl ?_
      refine V_aload_n (pc := 5) X 2 dX0_countOperations_5 rfl ?_
      refine V_get (pc := 6) X fl_X0_19 dX0_countOperations_6 z.1 z.2.2.1 ?_
      refine V_callL (pc := 9) X (Or.inl z.2.2.2.2.1) _ (c_size z.2.2.2.2.1) cw_X0_29 (Q.room (by decide) (by decide)) rfl (Nat.le_of_ble_eq_true rfl) rfl (by omega) dX0_countOperations_9 (fun _ _ z => z.elim) ?_
      rintro v9 h9 ⟨rfl, e9⟩
      rw [e9, hL]
      simp only [Option.toList_some, List.cons_append, List.nil_append]
      refine V_icmp_ge (pc := 12) X 41 dX0_countOperations_12 (by decide) (fun c12 => ?_) (fun c12 => ?_)
      · have hie : ¬ i < Hs.length := fun z => nI_ge z (by omega) c12
        refine V_iload_n (pc := 41) X 1 dX0_countOperations_41 rfl ?_
        refine V_iret (pc := 42) X Q rfl rfl dX0_countOperations_42 ?_
        have hii : i = Hs.length := by omega
        rw [r1, hii, hHl, List.take_length]
        exact ⟨rfl, rfl⟩
      · have hlt : i < Hs.length := by
          rcases Nat.lt_or_ge i (Hs.length) with z | z
          · exact z
          · exact absurd (nI_le z (by omega)) c12
        obtain ⟨mi, x, hm1, hx1, ⟨ol, R, mh, mL, mC, mO, mN, mW⟩⟩ := hH.at hlt
        have hRx := mO.1
        have hxl := hO x (List.mem_of_getElem? hx1)
        refine V_iload_n (pc := 15) X 1 dX0_countOperations_15 rfl ?_
        refine V_aload_n (pc := 16) X 2 dX0_countOperations_16 rfl ?_
        refine V_get (pc := 17) X fl_X0_19 dX0_countOperations_17 z.1 z.2.2.1 ?_
        refine V_iload_n (pc := 20) X 0 dX0_countOperations_20 rfl ?_
        refine V_callL (pc := 21) X (Or.inl z.2.2.2.2.1) _ (c_get (i := i) (x := mi) z.2.2.2.2.1 (by rw [hL]; exact hm1) (by rw [hL]; omega)) cw_X0_36 (Q.room (by decide) (by decide)) rfl (Nat.le_of_ble_eq_true rfl) rfl (by omega) dX0_countOperations_21 (fun _ _ z => z.elim) ?_
        rintro v21 h21 ⟨rfl, e21⟩
        rw [e21]
        simp only [Option.toList_some, List.cons_append, List.nil_append]
        refine V_cast (pc := 24) X clk5 (by decide) ck_X0_24 mh.1 dX0_countOperations_24 ?_
        refine V_get (pc := 27) X fl_X0_33 dX0_countOperations_27 mh.1 mh.2.2.2.1 ?_
        refine V_callL (pc := 30) X (Or.inl mh.2.2.2.2.2.1) _ (c_size mh.2.2.2.2.2.1) cw_X0_29 (Q.room (by decide) (by decide)) rfl (Nat.le_of_ble_eq_true rfl) rfl (by omega) dX0_countOperations_30 (fun _ _ z => z.elim) ?_
        rintro v30 h30 ⟨rfl, e30⟩
        rw [e30, mL, hRx]
        simp only [Option.toList_some, List.cons_append, List.nil_append]
        refine V_iadd (pc := 33) X dX0_countOperations_33 ?_
        rw [nI_add]
        refine V_istore_n (pc := 34) X [(1, .int _), (2, .int _), (0, .ref _)] dX0_countOperations_34 rfl (by decide) rfl ?_
        refine V_inc1 (pc := 35) X 1 [(2, .int _), (1, .int _), (0, .ref _)] dX0_countOperations_35 rfl (by decide) rfl ?_
        rw [nI_1]
        refine V_goto (pc := 38) X 4 dX0_countOperations_38 (by decide) ?_
        refine V.sub [0, 1, 2] rfl ?_
        refine ih (i + 1) (by omega) (by omega) (s + x.2.2.length) ?_ (by omega)
        rw [List.take_add_one, hx1, r1, List.map_append, List.sum_append]
        simp
  exact key (Hs.length + 1) 0 (by omega) (Nat.zero_le _) 0 rfl (Nat.le_refl _)
theorem c_enter {E : EV} {la : Nat → Nat} {dm : Nat → Prop} {h : AH} {me mr ml : Nat} {gc : Nat → Nat} {xs Hs : List Nat} {H : List MG} {O : List SO} (z : CE la h gc xs) (hL : qL h (gc 2) = Hs) (hH : HS la h Hs H) (hl : Hs.length ≤ 200) (hm : MS la h ml me mr O) (hnm : ml ∉ Hs) (hr0 : mr ≤ Hs.length) (hd : ∀ y, dm y → qK h (la y) = 5) (hxs : ∀ y ∈ xs, dm y) (hxO : xs.length + O.length ≤ 200) (hHw : ∀ x ∈ H, x.2.2.length ≤ 200 ∧ ∀ o ∈ x.2.2, wO dm o) (hHs : ((H.drop mr).map (fun x => x.2.2.length)).sum ≤ 200) (hw : ∀ i, i ≤ (H.drop mr).length → ∀ x, (H.drop mr)[i]? = some x → ∀ j, j ≤ x.2.2.length → ∀ o ∈ trl (entR O ((H.drop mr).take i)) (x.2.2.take j), wO dm o) (hwO : ∀ o ∈ entR O (H.drop mr), wO dm o) : Ct E yX0_enter cX0_enter 3 none 10 1002 [.ref (gc 0), .ref ml] h (fun v h1 => v = none ∧ CE la h1 gc (apS (entR O (H.drop mr)) xs) ∧ qL h1 (gc 2) = Hs ++ [ml] ∧ HS la h1 (Hs ++ [ml]) (H ++ [(me, mr, entR O (H.drop mr))]) ∧ Fr (fun a => own h a = te 2 ∨ own h a = .ref (40 + ml)) h h1) noX := by
  refine Ct_of RX0 (by decide +kernel) rfl (Nat.le_of_ble_eq_true rfl) (fun Γ X nt Q hin => ?_)
  have hHl := hH.1
  obtain ⟨ol, R, mh, mL, mC, mO, mN, mW⟩ := hm
  have hRO := mO.1
  have tn : ∀ (n : Nat), own h n = .ref 35 → n ∉ R := fun n y w => by have := mW n w; rw [y] at this; exact ref_ne (by omega) this
  have tc : ∀ i, i ≤ 3 → gc i ∉ R := fun i a w => by have := mW _ w; rw [z.2.2.2.2.2.2.2 i a] at this; exact ref_ne (by omega) this
  have tm : ∀ m ∈ Hs, ∀ a, own h a = .ref (40 + m) → a ∉ R := fun m hm a y w => by
    have := mW a w
    rw [y] at this
    exact ref_ne (fun u => hnm (by rw [show ml = m by omega]; exact hm)) this
  have tol : ol ∉ R := fun w => by have := mO.kind w; have := mh.2.2.2.2.2.1; omega
  refine V_aload_n (pc := 0) X 1 dX0_enter_0 rfl ?_
  refine V_get (pc := 1) X fl_X0_23 dX0_enter_1 mh.1 mh.2.2.1 ?_
  refine V_istore_n (pc := 4) X [(2, .int _), (0, .ref _), (1, .ref _)] dX0_enter_4 rfl (by decide) rfl ?_
  have key : ∀ (n i : Nat), Hs.length - i < n → i ≤ Hs.length → mr ≤ i → ∀ hr : AH, OPs la hr R (entR O ((H.drop mr).take (i - mr))) → Fr (fun a => a ∈ R) h hr → V E Γ (3 * ((H.drop i).map (fun x => x.2.2.length)).sum + 402) hr 5 [(2, .int (nI i)), (0, .ref (gc 0)), (1, .ref ml)] [] := by
    intro n
    induction n with
    | zero => exact fun i hn => absurd hn (Nat.not_lt_zero _)
    | succ n ih =>
      intro i hn hi hmi hr r1 r2
      have z2 := z.fr r2 tc
      have L2 := (r2.L (by rw [z.2.2.2.2.1]; decide) (tc 2 (by decide))).trans hL
      have H2 := hH.fr r2 tn tm
      have m2 := mh.fr r2 (tn _ mh.2.2.2.2.1)
      have mL2 := (r2.L (by rw [mh.2.2.2.2.2.1]; decide) tol).trans mL
      refine V_iload_n (pc := 5) X 0 dX0_enter_5 rfl ?_
      refine V_if_lt (pc := 6) X 47 dX0_enter_6 (by decide) (fun c6 => ?_) (fun c6 => ?_)
      · exact absurd c6 (nI_pos (by omega))
      · refine V_iload_n (pc := 9) X 0 dX0_enter_9 rfl ?_
        refine V_aload_n (pc := 10) X 1 dX0_enter_10 rfl ?_
        refine V_get (pc := 11) X fl_X0_19 dX0_enter_11 z2.1 z2.2.2.1 ?_
        refine V_callL (pc := 14) X (Or.inl z2.2.2.2.2.1) _ (c_size z2.2.2.2.2.1) cw_X0_29 (Q.room (by decide) (by decide)) rfl (Nat.le_of_ble_eq_true rfl) rfl (by omega) dX0_enter_14 (fun _ _ z => z.elim) ?_
        rintro v14 h14 ⟨rfl, e14⟩
        rw [e14, L2]
        simp only [Option.toList_some, List.cons_append, List.nil_append]
        refine V_icmp_ge (pc := 17) X 47 dX0_enter_17 (by decide) (fun c17 => ?_) (fun c17 => ?_)
        · have hie : ¬ i < Hs.length := fun z => nI_ge z (by omega) c17
          have hii : i = Hs.length := by omega
          subst hii
          refine V.less (b' := 402) (by omega) ?_
          rw [List.take_of_length_le (by rw [List.length_drop]; omega)] at r1
          generalize hO1 : entR O (H.drop mr) = O1 at r1 hwO
          have hO1l : O1.length = O.length := by rw [← hO1]; exact entR_len _ _
          obtain ⟨c, hx, hc⟩ := z2.2.2.2.1
          have hcS : caS O1 xs c ≤ 301 := Nat.le_trans (caS_max O1 xs c (by omega)) (by omega)
          refine V_aload_n (pc := 47) X 1 dX0_enter_47 rfl ?_
          
          refine V_get (pc := 48) X fl_X0_10 dX0_enter_48 z2.1 z2.2.1 ?_
          refine V_aload_n (pc := 51) X 2 dX0_enter_51 rfl ?_
          refine V_get (pc := 52) X fl_X0_33 dX0_enter_52 m2.1 m2.2.2.2.1 ?_
          refine V_callV (pc := 55) X clk7 (by decide) hx.1 _ (c_tcarryAll hx m2.2.2.2.2.2.1 mL2 (fun y => by have a := m2.2.2.2.2.2.2; rw [y, z2.2.2.2.2.2.2.2 3 (by decide)] at a; exact ref_ne (by omega) a) r1 (fun o ho => by
              have := hwO o ho
              unfold wO at this
              exact ⟨this.1, by omega, fun _ => r2.K (hd _ this.2.2.2) (by decide)⟩) (fun y hy => r2.K (hd y (hxs y hy)) (by decide)) (by omega) (by omega)) cw_X0_44 (Q.room (by decide) (by decide)) rfl (Nat.le_of_ble_eq_true rfl) rfl (by omega) dX0_enter_55 (fun _ _ z => z.elim) ?_
          rintro v55 h55 ⟨rfl, t1, t2⟩
          simp only [Option.toList_none, List.nil_append]
          refine V.less (b' := 101) (by omega) ?_
          have ne3 : ∀ a, own hr a ≠ te 2 → a ≠ gc 3 := fun a y w => y (by rw [w]; exact z2.2.2.2.2.2.2.2 3 (by decide))
          have g23 : gc 2 ≠ gc 3 := z2.2.2.2.2.2.2.1
          have g13 : gc 1 ≠ gc 3 := fun y => by have := hx.1; rw [y, hx.2.2.1] at this; exact absurd this (by decide)
          have g03 : gc 0 ≠ gc 3 := fun y => by have := z2.1; rw [y, hx.2.2.1] at this; exact absurd this (by decide)
          have L5 := (t2.L (by rw [z2.2.2.2.2.1]; decide) g23).trans L2
          have K5 := t2.K z2.2.2.2.2.1 (by decide)
          have C5 : qC h55 (gc 2) ≤ 301 := by rw [t2.C (by rw [z2.2.2.2.2.1]; decide) g23]; exact z2.2.2.2.2.2.1
          have H5 := H2.fr t2 (fun a y => ne3 a (by rw [y]; exact ref_ne (by omega))) (fun m _ a y => ne3 a (by rw [y]; exact ref_ne (by omega)))
          have m5 : MS la h55 ml me mr O1 := MS.fr ⟨ol, R, m2, mL2, by rw [r2.C (by rw [mh.2.2.2.2.2.1]; decide) tol]; exact mC, r1, mN, fun r hr => r2.O (by rw [mO.kind hr]; decide) (mW r hr)⟩ t2 (ne3 _ (by rw [m2.2.2.2.2.1]; exact ref_ne (by omega))) (fun a y => ne3 a (by rw [y]; exact ref_ne (by omega)))
          refine V_aload_n (pc := 58) X 1 dX0_enter_58 rfl ?_
          refine V_get (pc := 59) X fl_X0_19 dX0_enter_59 (t2.K z2.1 (by decide)) (t2.F (by rw [z2.1]; decide) g03 z2.2.2.1) ?_
          refine V_aload_n (pc := 62) X 2 dX0_enter_62 rfl ?_
          refine V_callL (pc := 63) X (Or.inl K5) _ (c_add (x := ml) K5 (by rw [m5.k]; omega) (by omega) (fun y hy => by rw [L5] at hy; rw [(H5.k hy).1]; omega)) cw_X0_48 (Q.room (by decide) (by decide)) rfl (Nat.le_of_ble_eq_true rfl) rfl (by have := gcap_inc (n := (qL h55 (gc 2)).length) (c := qC h55 (gc 2)) (by rw [L5]; exact hl); omega) dX0_enter_63 (fun _ _ z => z.elim) ?_
          rintro v63 h63 ⟨rfl, e63⟩
          rw [e63, L5]
          simp only [Option.toList_some, List.cons_append, List.nil_append]
          refine V_pop (pc := 66) X dX0_enter_66 rfl ?_
          refine V_vret (pc := 67) X Q rfl dX0_enter_67 ?_
          rw [hO1]
          have F6 : Fr (fun a => a = gc 2) h55 (sL h55 (gc 2) (Hs ++ [ml]) (gcap Hs.length (qC h55 (gc 2)))) := Fr_sL rfl
          have o5 : ∀ i, i ≤ 3 → own h55 (gc i) = te 2 := fun i a => t2.O (by
            rcases (show i = 0 ∨ i = 1 ∨ i = 2 ∨ i = 3 by omega) with rfl | rfl | rfl | rfl
            · rw [z2.1]; decide
            · rw [hx.1]; decide
            · rw [z2.2.2.2.2.1]; decide
            · rw [hx.2.2.1]; decide) (z2.2.2.2.2.2.2.2 i a)
          have ne2 : ∀ a, own h55 a ≠ te 2 → a ≠ gc 2 := fun a y w => y (by rw [w]; exact o5 2 (by decide))
          have H6 := H5.fr F6 (fun a y => ne2 a (by rw [y]; exact ref_ne (by omega))) (fun m _ a y => ne2 a (by rw [y]; exact ref_ne (by omega)))
          have m6 := m5.fr F6 (ne2 _ (by rw [m5.o]; exact ref_ne (by omega))) (fun a y => ne2 a (by rw [y]; exact ref_ne (by omega)))
          have g02 : gc 0 ≠ gc 2 := fun y => by have := z2.1; rw [y, z2.2.2.2.2.1] at this; exact absurd this (by decide)
          have g12 : gc 1 ≠ gc 2 := fun y => by have := hx.1; rw [y, z2.2.2.2.2.1] at this; exact absurd this (by decide)
          refine ⟨rfl, ⟨F6.K (t2.K z2.1 (by decide)) (by decide), F6.F (by rw [t2.K z2.1 (by decide)]; decide) g02 (t2.F (by rw [z2.1]; decide) g03 z2.2.1), F6.F (by rw [t2.K z2.1 (by decide)]; decide) g02 (t2.F (by rw [z2.1]; decide) g03 z2.2.2.1), ⟨_, t1.fr F6 g12 (fun y => g23 y.symm), hcS⟩, F6.K K5 (by decide), by rw [qC_sL, if_pos rfl]; exact Nat.le_trans (gcap_max hl) (by omega), g23, fun i a => F6.O (by
            rcases (show i = 0 ∨ i = 1 ∨ i = 2 ∨ i = 3 by omega) with rfl | rfl | rfl | rfl
            · rw [t2.K z2.1 (by decide)]; decide
            · rw [t1.1]; decide
            · rw [K5]; decide
            · rw [t1.2.2.1]; decide) (o5 i a)⟩, by rw [qL_sL, if_pos rfl], ⟨by rw [List.length_append, List.length_append, hHl]; rfl, fun j a x ha hx' => ?_⟩, ?_⟩
          · rcases Nat.lt_or_ge j Hs.length with y | y
            · rw [List.getElem?_append_left y] at ha
              rw [List.getElem?_append_left (by omega)] at hx'
              exact H6.2 j a x ha hx'
            · rw [List.getElem?_append_right y] at ha
              rw [List.getElem?_append_right (by omega)] at hx'
              have ej : j - Hs.length = 0 := by
                have := (List.getElem?_eq_some_iff.mp ha).1
                simp at this
                omega
              rw [ej] at ha
              rw [show j - H.length = 0 by omega] at hx'
              simp at ha hx'
              subst ha
              subst hx'
              exact m6
          · refine (r2.trans t2 (U := fun a => own h a = te 2 ∨ own h a = .ref (40 + ml)) (fun a _ y => Or.inr (mW a y)) (fun a _ y => Or.inl (by rw [y]; exact z.2.2.2.2.2.2.2 3 (by decide)))).trans F6 (fun _ _ y => y) (fun a _ y => Or.inl (by rw [y]; exact z.2.2.2.2.2.2.2 2 (by decide)))
        · have hlt : i < Hs.length := by
            rcases Nat.lt_or_ge i (Hs.length) with z | z
            · exact z
            · exact absurd (nI_le z (by omega)) c17
          obtain ⟨mi, x, hm1, hx1, ⟨ol3, R3, mh3, mL3, mC3, mO3, mN3, mW3⟩⟩ := H2.at hlt
          have hx2 : (H.drop mr)[i - mr]? = some x := by rw [List.getElem?_drop, show mr + (i - mr) = i by omega]; exact hx1
          have hdx : H.drop i = x :: H.drop (i + 1) := drop_at hx1
          have hwx := hHw x (List.mem_of_getElem? hx1)
          have hlm : (H.drop mr).length = H.length - mr := List.length_drop
          have hmi3 : mi ∈ Hs := List.mem_of_getElem? hm1
          have hsum : ((H.drop i).map (fun x => x.2.2.length)).sum = x.2.2.length + ((H.drop (i + 1)).map (fun x => x.2.2.length)).sum := by rw [hdx]; rfl
          refine V_aload_n (pc := 20) X 2 dX0_enter_20 rfl ?_
          refine V_get (pc := 21) X fl_X0_33 dX0_enter_21 m2.1 m2.2.2.2.1 ?_
          refine V_aload_n (pc := 24) X 1 dX0_enter_24 rfl ?_
          refine V_get (pc := 25) X fl_X0_19 dX0_enter_25 z2.1 z2.2.2.1 ?_
          refine V_iload_n (pc := 28) X 0 dX0_enter_28 rfl ?_
          refine V_callL (pc := 29) X (Or.inl z2.2.2.2.2.1) _ (c_get (i := i) (x := mi) z2.2.2.2.2.1 (by rw [L2]; exact hm1) (by rw [L2]; omega)) cw_X0_36 (Q.room (by decide) (by decide)) rfl (Nat.le_of_ble_eq_true rfl) rfl (by omega) dX0_enter_29 (fun _ _ z => z.elim) ?_
          rintro v29 h29 ⟨rfl, e29⟩
          rw [e29]
          simp only [Option.toList_some, List.cons_append, List.nil_append]
          refine V_cast (pc := 32) X clk5 (by decide) ck_X0_24 mh3.1 dX0_enter_32 ?_
          refine V_get (pc := 35) X fl_X0_33 dX0_enter_35 mh3.1 mh3.2.2.2.1 ?_
          refine V_callS (pc := 38) X _ (c_transAll m2.2.2.2.2.2.1 mL2 r1 mN mh3.2.2.2.2.2.1 mL3 mO3 (fun r hr1 hr3 => by
              have a := mW3 r hr3
              rw [r2.O (by rw [mO.kind hr1]; decide) (mW r hr1)] at a
              exact ref_ne (fun u => hnm (by rw [show ml = mi by omega]; exact hmi3)) a) (hw (i - mr) (by omega) x hx2) hwx.2 (by rw [entR_len]; omega) hwx.1) cw_X0_40 (Q.room (by decide) (by decide)) rfl (Nat.le_of_ble_eq_true rfl) rfl (by omega) dX0_enter_38 (fun _ _ z => z.elim) ?_
          rintro v38 h38 ⟨rfl, y1, y2⟩
          simp only [Option.toList_none, List.nil_append]
          refine V_inc1 (pc := 41) X 0 [(2, .int _), (0, .ref _), (1, .ref _)] dX0_enter_41 rfl (by decide) rfl ?_
          rw [nI_1]
          refine V_goto (pc := 44) X 5 dX0_enter_44 (by decide) ?_
          refine V.less (b' := 3 * ((H.drop (i + 1)).map (fun x => x.2.2.length)).sum + 402) (by omega) ?_
          exact ih (i + 1) (by omega) (by omega) (by omega) _ (by rw [show i + 1 - mr = i - mr + 1 by omega, entR_succ hx2]; exact y1) (r2.seq y2)
  refine V.less (b' := 3 * ((H.drop mr).map (fun x => x.2.2.length)).sum + 402) (by omega) ?_
  exact key (Hs.length - mr + 1) mr (by omega) hr0 (Nat.le_refl _) _ (by rw [Nat.sub_self]; exact mO) (Fr.refl _ _)
