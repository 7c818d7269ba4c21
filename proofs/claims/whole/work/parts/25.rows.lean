/-! ROWS OF OPERATIONS -/
/-- a row, transformed by an operation that goes through it; and that operation behind it -/
def crs : List SO → SO → List SO
  | [], _ => []
  | a :: O, b => trb a b :: crs O (trb b a)
def crp : List SO → SO → SO
  | [], b => b
  | a :: O, b => crp O (trb b a)
theorem crs_len : ∀ (O : List SO) (b : SO), (crs O b).length = O.length
  | [], _ => rfl
  | a :: O, b => congrArg (· + 1) (crs_len O (trb b a))
theorem crs_get : ∀ (O : List SO) (b : SO) (j : Nat), (crs O b)[j]? = (O[j]?).map (fun a => trb a (crp (O.take j) b))
  | [], _, _ => rfl
  | a :: O, b, 0 => rfl
  | a :: O, b, j + 1 => crs_get O (trb b a) j
theorem crp_succ : ∀ (O : List SO) (b : SO) (i : Nat) (a : SO), O[i]? = some a → crp (O.take (i + 1)) b = trb (crp (O.take i) b) a
  | [], _, _, _, h => by simp at h
  | a :: O, b, 0, c, h => by
    simp at h
    subst h
    rfl
  | a :: O, b, i + 1, c, h => crp_succ O (trb b a) i c h
theorem trf_bnd (a : SO) (k p m : Nat) (h : a.1 ≤ 2) : (trf a k p m).1 ≤ 2 ∧ (trf a k p m).2.1 ≤ a.2.1 + 1 ∧ (trf a k p m).2.2 = a.2.2 := by
  unfold trf
  split
  · exact ⟨h, by omega, rfl⟩
  · split
    · split
      · exact ⟨h, by dsimp only; omega, rfl⟩
      · exact ⟨h, by omega, rfl⟩
    · split
      · exact ⟨h, by dsimp only; omega, rfl⟩
      · split
        · exact ⟨Nat.zero_le _, Nat.zero_le _, rfl⟩
        · exact ⟨h, by omega, rfl⟩
theorem crp_bnd : ∀ (O : List SO) (b : SO), b.1 ≤ 2 → (crp O b).1 ≤ 2 ∧ (crp O b).2.1 ≤ b.2.1 + O.length ∧ (crp O b).2.2 = b.2.2
  | [], b, h => ⟨h, by simp [crp], rfl⟩
  | a :: O, b, h => by
    obtain ⟨h1, h2, h3⟩ := trf_bnd b a.1 a.2.1 a.2.2.2 h
    obtain ⟨g1, g2, g3⟩ := crp_bnd O (trb b a) h1
    refine ⟨g1, ?_, g3.trans h3⟩
    have h2' : (trb b a).2.1 ≤ b.2.1 + 1 := h2
    show (crp O (trb b a)).2.1 ≤ b.2.1 + (O.length + 1)
    omega
def OPs (la : Nat → Nat) (h : AH) (R : List Nat) (O : List SO) : Prop := R.length = O.length ∧ ∀ (j r : Nat) (o : SO), R[j]? = some r → O[j]? = some o → OP la h r o
theorem OPs.fr {la : Nat → Nat} {S : Nat → Prop} {h h' : AH} {R : List Nat} {O : List SO} (z : OPs la h R O) (F : Fr S h h') (hs : ∀ r ∈ R, ¬ S r) : OPs la h' R O := ⟨z.1, fun j r o x y => (z.2 j r o x y).fr F (hs r (List.mem_of_getElem? x))⟩
theorem OPs.kind {la : Nat → Nat} {h : AH} {R : List Nat} {O : List SO} (z : OPs la h R O) {r : Nat} (hr : r ∈ R) : qK h r = 7 := by
  obtain ⟨j, hj⟩ := List.mem_iff_getElem?.mp hr
  have hlt : j < R.length := (List.getElem?_eq_some_iff.mp hj).1
  exact (z.2 j r (O[j]'(by rw [← z.1]; exact hlt)) hj (List.getElem?_eq_getElem _)).1
theorem OPs.at {la : Nat → Nat} {h : AH} {R : List Nat} {O : List SO} (z : OPs la h R O) {i : Nat} (hi : i < R.length) : ∃ r o, R[i]? = some r ∧ O[i]? = some o ∧ OP la h r o := ⟨R[i], O[i]'(by rw [← z.1]; exact hi), List.getElem?_eq_getElem hi, List.getElem?_eq_getElem _, z.2 i _ _ (List.getElem?_eq_getElem hi) (List.getElem?_eq_getElem _)⟩
theorem OPs.nil (la : Nat → Nat) (h : AH) : OPs la h [] [] := ⟨rfl, fun j r o x y => by simp at x⟩
theorem OPs.cons {la : Nat → Nat} {h : AH} {r : Nat} {o : SO} {R : List Nat} {O : List SO} (z : OP la h r o) (zs : OPs la h R O) : OPs la h (r :: R) (o :: O) := ⟨congrArg (· + 1) zs.1, fun j r' o' x y => by
  cases j with
  | zero => simp at x y; subst x; subst y; exact z
  | succ j => exact zs.2 j r' o' x y⟩
theorem OPs.app {la : Nat → Nat} {h : AH} {R R' : List Nat} {O O' : List SO} (z : OPs la h R O) (z' : OPs la h R' O') : OPs la h (R ++ R') (O ++ O') := by
  refine ⟨by rw [List.length_append, List.length_append, z.1, z'.1], fun j r o x y => ?_⟩
  by_cases hj : j < R.length
  · rw [List.getElem?_append_left hj] at x
    rw [List.getElem?_append_left (by rw [← z.1]; exact hj)] at y
    exact z.2 j r o x y
  · rw [List.getElem?_append_right (by omega)] at x
    rw [List.getElem?_append_right (by rw [← z.1]; omega)] at y
    rw [z.1] at x
    exact z'.2 _ r o x y
theorem c_trRow {E : EV} {la : Nat → Nat} {h : AH} {rl p : Nat} {R : List Nat} {O : List SO} {b : SO} (hk : qK h rl = 11) (hL : qL h rl = R) (hO : OPs la h R O) (hp : OP la h p b) (nd : R.Nodup) (np : p ∉ R) (hw : ∀ o ∈ O, o.1 ≤ 2 ∧ o.2.1 < 2 ^ 29 ∧ o.2.2.2 < 2 ^ 30) (hb : b.1 ≤ 2 ∧ b.2.1 < 2 ^ 29 ∧ b.2.2.2 < 2 ^ 30) (hl : O.length < 2 ^ 29) : Ct E yX6_transformRow cX6_transformRow 6 none 4 0 [.ref rl, .ref p] h (fun v h1 => v = none ∧ OPs la h1 R (crs O b) ∧ OP la h1 p (crp O b) ∧ Fr (fun a => a ∈ R ∨ a = p) h h1) noX := by
  refine Ct_of RX6 (by decide +kernel) rfl (Nat.le_of_ble_eq_true rfl) (fun Γ X nt Q hin => ?_)
  have hRO := hO.1
  have hS : ¬ (rl ∈ R ∨ rl = p) := fun z => z.elim (fun z => by have := hO.kind z; omega) (fun z => by have := hp.1; rw [← z] at this; omega)
  refine V_iconst (pc := 0) (v := 0) X dX6_transformRow_0 (by decide) ?_
  refine V_istore_n (pc := 1) X [(2, .int _), (0, .ref _), (1, .ref _)] dX6_transformRow_1 rfl (by decide) rfl ?_
  have key : ∀ (n i : Nat), R.length - i < n → i ≤ R.length → ∀ hr : AH, (∀ (j r : Nat) (o : SO), R[j]? = some r → O[j]? = some o → OP la hr r (if j < i then trb o (crp (O.take j) b) else o)) → OP la hr p (crp (O.take i) b) → Fr (fun a => a ∈ R ∨ a = p) h hr → V E Γ 0 hr 2 [(2, .int (nI i)), (0, .ref rl), (1, .ref p)] [] := by
    intro n
    induction n with
    | zero => exact fun i hn => absurd hn (Nat.not_lt_zero _)
    | succ n ih =>
      intro i hn hi hr r1 r2 r3
      have hkr := r3.K hk (by decide)
      have hLr : qL hr rl = R := (r3.L (by omega) hS).trans hL
      refine V_iload_n (pc := 2) X 0 dX6_transformRow_2 rfl ?_
      refine V_aload_n (pc := 3) X 1 dX6_transformRow_3 rfl ?_
      refine V_callL (pc := 4) X (Or.inl hkr) _ (c_size hkr) cw_X6_27 (Q.room (by decide) (by decide)) rfl (Nat.le_of_ble_eq_true rfl) rfl (by omega) dX6_transformRow_4 (fun _ _ z => z.elim) ?_
      rintro v4 h4 ⟨rfl, rfl⟩
      simp only [Option.toList_some, List.cons_append, List.nil_append]
      rw [hLr]
      refine V_icmp_ge (pc := 7) X 65 dX6_transformRow_7 (by decide) (fun c7 => ?_) (fun c7 => ?_)
      · have hie : i = R.length := by
          rcases Nat.lt_or_ge i R.length with z | z
          · exact absurd c7 (nI_ge z (by omega))
          · omega
        refine V_vret (pc := 65) X Q rfl dX6_transformRow_65 ?_
        refine ⟨rfl, ⟨by rw [crs_len]; exact hRO, fun j r o x y => ?_⟩, ?_, r3⟩
        · rw [crs_get] at y
          obtain ⟨o', h1, h2⟩ := Option.map_eq_some_iff.mp y
          have := r1 j r o' x h1
          rw [if_pos (by rw [hie]; exact (List.getElem?_eq_some_iff.mp x).1), h2] at this
          exact this
        · rw [hie, hRO, List.take_length] at r2
          exact r2
      · have hlt : i < R.length := by
          rcases Nat.lt_or_ge i R.length with z | z
          · exact z
          · exact absurd (nI_le z (by omega)) c7
        obtain ⟨r, o, hr1, ho1, -⟩ := hO.at hlt
        have ho := r1 i r o hr1 ho1
        rw [if_neg (Nat.lt_irrefl _)] at ho
        have hw1 := hw o (List.mem_of_getElem? ho1)
        have hrp : r ≠ p := fun z => np (by rw [← z]; exact List.mem_of_getElem? hr1)
        obtain ⟨g1, g2, g3⟩ := crp_bnd (O.take i) b hb.1
        have g4 : (O.take i).length ≤ O.length := by rw [List.length_take]; omega
        generalize hbi : crp (O.take i) b = bi at r2 g1 g2 g3
        have g5 : bi.2.2.2 < 2 ^ 30 := by rw [g3]; exact hb.2.2
        refine V_aload_n (pc := 10) X 1 dX6_transformRow_10 rfl ?_
        refine V_iload_n (pc := 11) X 0 dX6_transformRow_11 rfl ?_
        refine V_callL (pc := 12) X (Or.inl hkr) _ (c_get (i := i) (x := r) hkr (by rw [hLr]; exact hr1) (by rw [hLr]; omega)) cw_X6_33 (Q.room (by decide) (by decide)) rfl (Nat.le_of_ble_eq_true rfl) rfl (by omega) dX6_transformRow_12 (fun _ _ z => z.elim) ?_
        rintro v12 h12 ⟨rfl, rfl⟩
        simp only [Option.toList_some, List.cons_append, List.nil_append]
        refine V_cast (pc := 15) X clk6 (by decide) ck_X6_8 ho.1 dX6_transformRow_15 ?_
        refine V_astore_n (pc := 18) X [(3, .ref _), (2, .int _), (0, .ref _), (1, .ref _)] dX6_transformRow_18 rfl (by decide) rfl ?_
        refine V_aload_n (pc := 19) X 0 dX6_transformRow_19 rfl ?_
        refine V_get (pc := 20) X fl_X6_13 dX6_transformRow_20 ho.1 ho.2.2.2.1 ?_
        refine V_istore (pc := 23) X [(4, .int _), (3, .ref _), (2, .int _), (0, .ref _), (1, .ref _)] dX6_transformRow_23 (by decide) rfl ?_
        refine V_aload_n (pc := 25) X 1 dX6_transformRow_25 rfl ?_
        refine V_get (pc := 26) X fl_X6_17 dX6_transformRow_26 ho.1 ho.2.2.2.2 ?_
        refine V_istore (pc := 29) X [(5, .int _), (4, .int _), (3, .ref _), (2, .int _), (0, .ref _), (1, .ref _)] dX6_transformRow_29 (by decide) rfl ?_
        refine V_aload_n (pc := 31) X 2 dX6_transformRow_31 rfl ?_
        refine V_aload_n (pc := 32) X 5 dX6_transformRow_32 rfl ?_
        refine V_get (pc := 33) X fl_X6_13 dX6_transformRow_33 r2.1 r2.2.2.2.1 ?_
        refine V_aload_n (pc := 36) X 5 dX6_transformRow_36 rfl ?_
        refine V_get (pc := 37) X fl_X6_17 dX6_transformRow_37 r2.1 r2.2.2.2.2 ?_
        refine V_aload_n (pc := 40) X 5 dX6_transformRow_40 rfl ?_
        refine V_get (pc := 41) X fl_X6_7 dX6_transformRow_41 r2.1 r2.2.1 ?_
        refine V_callV (pc := 44) X clk6 (by decide) ho.1 _ (c_trans ho hw1.1 g1 (by omega) (by omega) g5) cw_X6_37 (Q.room (by decide) (by decide)) rfl (Nat.le_of_ble_eq_true rfl) rfl (by omega) dX6_transformRow_44 (fun _ _ z => z.elim) ?_
        rintro v44 h44 ⟨rfl, t1, t2⟩
        simp only [Option.toList_none, List.nil_append]
        have p2 := r2.fr t2 (fun z => hrp z.symm)
        have t1e : qF h44 600 r = .int (nI o.2.2.2) := by rw [t1.2.1, show (trb o bi).2.2 = o.2.2 from (trf_bnd _ _ _ _ hw1.1).2.2]
        refine V_aload_n (pc := 47) X 5 dX6_transformRow_47 rfl ?_
        refine V_iload (pc := 48) X 1 dX6_transformRow_48 rfl ?_
        refine V_iload (pc := 50) X 0 dX6_transformRow_50 rfl ?_
        refine V_aload_n (pc := 52) X 2 dX6_transformRow_52 rfl ?_
        refine V_get (pc := 53) X fl_X6_7 dX6_transformRow_53 t1.1 t1e ?_
        refine V_callV (pc := 56) X clk6 (by decide) p2.1 _ (c_trans p2 g1 hw1.1 (by omega) (by omega) hw1.2.2) cw_X6_37 (Q.room (by decide) (by decide)) rfl (Nat.le_of_ble_eq_true rfl) rfl (by omega) dX6_transformRow_56 (fun _ _ z => z.elim) ?_
        rintro v56 h56 ⟨rfl, s1, s2⟩
        simp only [Option.toList_none, List.nil_append]
        refine V_inc1 (pc := 59) X 3 [(2, .int _), (5, .int _), (4, .int _), (3, .ref _), (0, .ref _), (1, .ref _)] dX6_transformRow_59 rfl (by decide) rfl ?_
        rw [nI_1]
        refine V_goto (pc := 62) X 2 dX6_transformRow_62 (by decide) ?_
        refine V.sub [0, 4, 5] rfl ?_
        refine ih (i + 1) (by omega) (by omega) _ (fun j r' o' x y => ?_) (by rw [crp_succ O b i o ho1, hbi]; exact s1) ?_
        · by_cases e : j = i
          · subst e
            rw [hr1] at x; cases x
            rw [ho1] at y; cases y
            rw [if_pos (by omega), hbi]
            exact t1.fr s2 hrp
          · have z := r1 j r' o' x y
            have hne : r' ≠ r := fun w => e ((List.getElem?_inj (List.getElem?_eq_some_iff.mp x).1 nd).mp (by rw [x, hr1, w]))
            have hnp : r' ≠ p := fun w => np (by rw [← w]; exact List.mem_of_getElem? x)
            rw [show (if j < i + 1 then trb o' (crp (O.take j) b) else o') = if j < i then trb o' (crp (O.take j) b) else o' by
              by_cases u : j < i
              · rw [if_pos u, if_pos (by omega)]
              · rw [if_neg u, if_neg (by omega)]]
            exact (z.fr t2 hne).fr s2 hnp
        · refine (r3.seq (t2.mono (fun a _ z => ?_))).seq (s2.mono (fun a _ z => Or.inr z))
          rw [z]; exact Or.inl (List.mem_of_getElem? hr1)
  exact key (R.length + 1) 0 (by omega) (Nat.zero_le _) _ (fun j r o x y => hO.2 j r o x y) hp (Fr.refl _ _)
/-! TEXTS -/
/-- letter x: its look and its owner -/
def LT (la : Nat → Nat) (tb : Nat → Nat × Nat) (h : AH) (x : Nat) : Prop := qK h (la x) = 5 ∧ qF h 400 (la x) = .int (nI (tb x).1) ∧ qF h 401 (la x) = .int (nI (tb x).2) ∧ (tb x).1 < 127 ∧ (tb x).2 ≤ 1
/-- a text: its object, its list, the letters in it, the room of the list -/
def TX (la : Nat → Nat) (h : AH) (t tl : Nat) (xs : List Nat) (c : Nat) : Prop := qK h t = 8 ∧ qF h 700 t = .ref tl ∧ qK h tl = 11 ∧ qL h tl = xs.map la ∧ qC h tl = c
theorem LT.fr {la : Nat → Nat} {tb : Nat → Nat × Nat} {S : Nat → Prop} {h h' : AH} {x : Nat} (z : LT la tb h x) (F : Fr S h h') (hs : ¬ S (la x)) : LT la tb h' x := by
  obtain ⟨z1, z2, z3, z4⟩ := z
  have h0 : qK h (la x) ≠ 0 := by omega
  exact ⟨F.K z1 (by decide), F.F h0 hs z2, F.F h0 hs z3, z4⟩
theorem TX.fr {la : Nat → Nat} {S : Nat → Prop} {h h' : AH} {t tl : Nat} {xs : List Nat} {c : Nat} (z : TX la h t tl xs c) (F : Fr S h h') (hs : ¬ S t) (hl : ¬ S tl) : TX la h' t tl xs c := by
  obtain ⟨z1, z2, z3, z4, z5⟩ := z
  exact ⟨F.K z1 (by decide), F.F (by omega) hs z2, F.K z3 (by decide), (F.L (by omega) hl).trans z4, (F.C (by omega) hl).trans z5⟩
theorem TX.len {la : Nat → Nat} {h : AH} {t tl : Nat} {xs : List Nat} {c : Nat} (z : TX la h t tl xs c) : (qL h tl).length = xs.length := by rw [z.2.2.2.1, List.length_map]
theorem TX.get {la : Nat → Nat} {h : AH} {t tl : Nat} {xs : List Nat} {c : Nat} (z : TX la h t tl xs c) {i x : Nat} (hx : xs[i]? = some x) : (qL h tl)[i]? = some (la x) := by rw [z.2.2.2.1, List.getElem?_map, hx]; rfl
/-- how an operation changes a text; the room of its list behind it -/
def apO (o : SO) (xs : List Nat) : List Nat := if o.1 = 1 ∧ o.2.1 ≤ xs.length then xs.take o.2.1 ++ o.2.2.1 :: xs.drop o.2.1 else if o.1 = 2 ∧ o.2.1 < xs.length then xs.take o.2.1 ++ xs.drop (o.2.1 + 1) else xs
def caO (o : SO) (xs : List Nat) (c : Nat) : Nat := if o.1 = 1 ∧ o.2.1 ≤ xs.length then gcap xs.length c else c
def apS : List SO → List Nat → List Nat
  | [], xs => xs
  | o :: O, xs => apS O (apO o xs)
def caS : List SO → List Nat → Nat → Nat
  | [], _, c => c
  | o :: O, xs, c => caS O (apO o xs) (caO o xs c)
theorem apO_len (o : SO) (xs : List Nat) : (apO o xs).length ≤ xs.length + 1 := by
  unfold apO
  split
  · simp; omega
  · split
    · simp; omega
    · omega
theorem gcap_max {n c : Nat} (h : n ≤ 200) : gcap n c ≤ max c 301 := by unfold gcap; split <;> (try split) <;> omega
theorem gcap_inc {n c : Nat} (h : n ≤ 200) : gcap n c - c ≤ 101 := by unfold gcap; split <;> (try split) <;> omega
theorem caO_le (o : SO) (xs : List Nat) (c : Nat) : c ≤ caO o xs c := by
  unfold caO; split
  · exact gcap_le _ _
  · omega
theorem caO_max {o : SO} {xs : List Nat} {c : Nat} (h : xs.length ≤ 200) : caO o xs c ≤ max c 301 := by
  unfold caO; split
  · exact gcap_max h
  · omega
theorem caO_inc {o : SO} {xs : List Nat} {c : Nat} (h : xs.length ≤ 200) : caO o xs c - c ≤ 101 := by
  unfold caO; split
  · exact gcap_inc h
  · omega
theorem apS_len : ∀ (O : List SO) (xs : List Nat), (apS O xs).length ≤ xs.length + O.length
  | [], xs => Nat.le_refl _
  | o :: O, xs => by
    have h1 := apS_len O (apO o xs)
    have h2 := apO_len o xs
    show (apS O (apO o xs)).length ≤ xs.length + (O.length + 1)
    omega
theorem caS_le : ∀ (O : List SO) (xs : List Nat) (c : Nat), c ≤ caS O xs c
  | [], _, _ => Nat.le_refl _
  | o :: O, xs, c => Nat.le_trans (caO_le o xs c) (caS_le O _ _)
theorem caS_max : ∀ (O : List SO) (xs : List Nat) (c : Nat), xs.length + O.length ≤ 201 → caS O xs c ≤ max c 301
  | [], _, _, _ => by simp [caS]; omega
  | o :: O, xs, c, h => by
    have h1 := apO_len o xs
    have h2 : xs.length + (O.length + 1) ≤ 201 := h
    have h3 := caS_max O (apO o xs) (caO o xs c) (by omega)
    have h4 : caO o xs c ≤ max c 301 := caO_max (by omega)
    show caS O (apO o xs) (caO o xs c) ≤ max c 301
    omega
theorem apS_app : ∀ (O P : List SO) (xs : List Nat), apS (O ++ P) xs = apS P (apS O xs)
  | [], _, _ => rfl
  | o :: O, P, xs => apS_app O P (apO o xs)
theorem map_ins {la : Nat → Nat} {xs : List Nat} {i x : Nat} : lIns (xs.map la) i (la x) = (xs.take i ++ x :: xs.drop i).map la := by unfold lIns; rw [List.map_append, List.map_cons, List.map_take, List.map_drop]
theorem map_del {la : Nat → Nat} {xs : List Nat} {i : Nat} : lDel (xs.map la) i = (xs.take i ++ xs.drop (i + 1)).map la := by unfold lDel; rw [List.map_append, List.map_take, List.map_drop]
theorem c_tsize {E : EV} {la : Nat → Nat} {h : AH} {t tl c : Nat} {xs : List Nat} (hx : TX la h t tl xs c) : Ct E yX7_size cX7_size 1 (some .int) 2 0 [.ref t] h (fun v h1 => v = some (.int (nI xs.length)) ∧ h1 = h) noX := by
  refine Ct_of RX7 (by decide +kernel) rfl (Nat.le_of_ble_eq_true rfl) (fun Γ X nt Q hin => ?_)
  refine V_aload_n (pc := 0) X 0 dX7_size_0 rfl ?_
  refine V_get (pc := 1) X fl_X7_10 dX7_size_1 hx.1 hx.2.1 ?_
  refine V_callL (pc := 4) X (Or.inl hx.2.2.1) _ (c_size hx.2.2.1) cw_X7_16 (Q.room (by decide) (by decide)) rfl (Nat.le_of_ble_eq_true rfl) rfl (by omega) dX7_size_4 (fun _ _ z => z.elim) ?_
  rintro v4 h4 ⟨rfl, rfl⟩
  simp only [Option.toList_some, List.cons_append, List.nil_append]
  rw [hx.len]
  refine V_iret (pc := 7) X Q rfl rfl dX7_size_7 ?_
  exact ⟨rfl, rfl⟩
theorem c_hasC {E : EV} {la : Nat → Nat} {h : AH} {t tl c : Nat} {xs : List Nat} (hx : TX la h t tl xs c) {p : Int32} : Ct E yX7_hasCharacter cX7_hasCharacter 2 (some .boolean) 2 0 [.ref t, .int p] h (fun v h1 => v = some (.int (if ¬ p < 0 ∧ p < nI xs.length then 1 else 0)) ∧ h1 = h) noX := by
  refine Ct_of RX7 (by decide +kernel) rfl (Nat.le_of_ble_eq_true rfl) (fun Γ X nt Q hin => ?_)
  refine V_iload_n (pc := 0) X 1 dX7_hasCharacter_0 rfl ?_
  refine V_if_lt (pc := 1) X 19 dX7_hasCharacter_1 (by decide) (fun c1 => ?_) (fun c1 => ?_)
  · refine V_iconst (pc := 19) (v := 0) X dX7_hasCharacter_19 (by decide) ?_
    refine V_iret (pc := 20) X Q rfl rfl dX7_hasCharacter_20 ?_
    refine ⟨?_, rfl⟩
    first
    | (rw [if_neg (fun z => z.1 c1)]; done)
    | (rw [if_pos ⟨c1, Int32.not_le.mp c12⟩]; done)
    | (rw [if_neg (fun z => Int32.not_le.mpr z.2 c12)]; done)
  · refine V_iload_n (pc := 4) X 1 dX7_hasCharacter_4 rfl ?_
    refine V_aload_n (pc := 5) X 0 dX7_hasCharacter_5 rfl ?_
    refine V_get (pc := 6) X fl_X7_10 dX7_hasCharacter_6 hx.1 hx.2.1 ?_
    refine V_callL (pc := 9) X (Or.inl hx.2.2.1) _ (c_size hx.2.2.1) cw_X7_16 (Q.room (by decide) (by decide)) rfl (Nat.le_of_ble_eq_true rfl) rfl (by omega) dX7_hasCharacter_9 (fun _ _ z => z.elim) ?_
    rintro v9 h9 ⟨rfl, rfl⟩
    simp only [Option.toList_some, List.cons_append, List.nil_append]
    rw [hx.len]
    refine V_icmp_ge (pc := 12) X 19 dX7_hasCharacter_12 (by decide) (fun c12 => ?_) (fun c12 => ?_)
    · refine V_iconst (pc := 19) (v := 0) X dX7_hasCharacter_19 (by decide) ?_
      refine V_iret (pc := 20) X Q rfl rfl dX7_hasCharacter_20 ?_
      refine ⟨?_, rfl⟩
      first
      | (rw [if_neg (fun z => z.1 c1)]; done)
      | (rw [if_pos ⟨c1, Int32.not_le.mp c12⟩]; done)
      | (rw [if_neg (fun z => Int32.not_le.mpr z.2 c12)]; done)
    · refine V_iconst (pc := 15) (v := 1) X dX7_hasCharacter_15 (by decide) ?_
      refine V_goto (pc := 16) X 20 dX7_hasCharacter_16 (by decide) ?_
      refine V_iret (pc := 20) X Q rfl rfl dX7_hasCharacter_20 ?_
      refine ⟨?_, rfl⟩
      first
      | (rw [if_neg (fun z => z.1 c1)]; done)
      | (rw [if_pos ⟨c1, Int32.not_le.mp c12⟩]; done)
      | (rw [if_neg (fun z => Int32.not_le.mpr z.2 c12)]; done)
theorem c_hasP {E : EV} {la : Nat → Nat} {h : AH} {t tl c : Nat} {xs : List Nat} (hx : TX la h t tl xs c) {p : Int32} : Ct E yX7_hasPlace cX7_hasPlace 2 (some .boolean) 2 0 [.ref t, .int p] h (fun v h1 => v = some (.int (if ¬ p < 0 ∧ p ≤ nI xs.length then 1 else 0)) ∧ h1 = h) noX := by
  refine Ct_of RX7 (by decide +kernel) rfl (Nat.le_of_ble_eq_true rfl) (fun Γ X nt Q hin => ?_)
  refine V_iload_n (pc := 0) X 1 dX7_hasPlace_0 rfl ?_
  refine V_if_lt (pc := 1) X 19 dX7_hasPlace_1 (by decide) (fun c1 => ?_) (fun c1 => ?_)
  · refine V_iconst (pc := 19) (v := 0) X dX7_hasPlace_19 (by decide) ?_
    refine V_iret (pc := 20) X Q rfl rfl dX7_hasPlace_20 ?_
    refine ⟨?_, rfl⟩
    first
    | (rw [if_neg (fun z => z.1 c1)]; done)
    | (rw [if_pos ⟨c1, Int32.not_lt.mp c12⟩]; done)
    | (rw [if_neg (fun z => Int32.not_lt.mpr z.2 c12)]; done)
  · refine V_iload_n (pc := 4) X 1 dX7_hasPlace_4 rfl ?_
    refine V_aload_n (pc := 5) X 0 dX7_hasPlace_5 rfl ?_
    refine V_get (pc := 6) X fl_X7_10 dX7_hasPlace_6 hx.1 hx.2.1 ?_
    refine V_callL (pc := 9) X (Or.inl hx.2.2.1) _ (c_size hx.2.2.1) cw_X7_16 (Q.room (by decide) (by decide)) rfl (Nat.le_of_ble_eq_true rfl) rfl (by omega) dX7_hasPlace_9 (fun _ _ z => z.elim) ?_
    rintro v9 h9 ⟨rfl, rfl⟩
    simp only [Option.toList_some, List.cons_append, List.nil_append]
    rw [hx.len]
    refine V_icmp_gt (pc := 12) X 19 dX7_hasPlace_12 (by decide) (fun c12 => ?_) (fun c12 => ?_)
    · refine V_iconst (pc := 19) (v := 0) X dX7_hasPlace_19 (by decide) ?_
      refine V_iret (pc := 20) X Q rfl rfl dX7_hasPlace_20 ?_
      refine ⟨?_, rfl⟩
      first
      | (rw [if_neg (fun z => z.1 c1)]; done)
      | (rw [if_pos ⟨c1, Int32.not_lt.mp c12⟩]; done)
      | (rw [if_neg (fun z => Int32.not_lt.mpr z.2 c12)]; done)
    · refine V_iconst (pc := 15) (v := 1) X dX7_hasPlace_15 (by decide) ?_
      refine V_goto (pc := 16) X 20 dX7_hasPlace_16 (by decide) ?_
      refine V_iret (pc := 20) X Q rfl rfl dX7_hasPlace_20 ?_
      refine ⟨?_, rfl⟩
      first
      | (rw [if_neg (fun z => z.1 c1)]; done)
      | (rw [if_pos ⟨c1, Int32.not_lt.mp c12⟩]; done)
      | (rw [if_neg (fun z => Int32.not_lt.mpr z.2 c12)]; done)
theorem hasC_n {p n : Nat} (hp : p < 2 ^ 30) (hn : n < 2 ^ 30) : (¬ nI p < 0 ∧ nI p < nI n) ↔ p < n := ⟨fun z => (nI_ltI (by omega) (by omega)).mp z.2, fun z => ⟨nI_pos (by omega), nI_lt z (by omega)⟩⟩
theorem hasP_n {p n : Nat} (hp : p < 2 ^ 30) (hn : n < 2 ^ 30) : (¬ nI p < 0 ∧ nI p ≤ nI n) ↔ p ≤ n := ⟨fun z => (nI_leI (by omega) (by omega)).mp z.2, fun z => ⟨nI_pos (by omega), nI_le z (by omega)⟩⟩
theorem c_tcarry {E : EV} {la : Nat → Nat} {h : AH} {t tl c a : Nat} {xs : List Nat} {o : SO} (hx : TX la h t tl xs c) (ho : OP la h a o) (hl5 : o.1 = 1 → qK h (la o.2.2.1) = 5) (hxs : ∀ x ∈ xs, qK h (la x) = 5) (hk : o.1 ≤ 2) (hp : o.2.1 < 2 ^ 29) (hl : xs.length < 2 ^ 29) (hc : c < 20000) : Ct E yX7_carryOut cX7_carryOut 3 none 8 (caO o xs c - c) [.ref t, .ref a] h (fun v h1 => v = none ∧ TX la h1 t tl (apO o xs) (caO o xs c) ∧ Fr (fun b => b = tl) h h1) noX := by
  refine Ct_of RX7 (by decide +kernel) rfl (Nat.le_of_ble_eq_true rfl) (fun Γ X nt Q hin => ?_)
  obtain ⟨o1, o2, o3, o4, o5⟩ := id ho
  obtain ⟨x1, x2, x3, x4, x5⟩ := id hx
  have hel : ∀ y ∈ qL h tl, 1 ≤ qK h y ∧ qK h y ≤ 10 := fun y hy => by
    rw [x4] at hy
    obtain ⟨z, z1, z2⟩ := List.mem_map.mp hy
    rw [← z2, hxs z z1]; omega
  have htt : t ≠ tl := fun z => by rw [z] at x1; omega
  have FT : ∀ (ys : List Nat) (c' : Nat), TX la (sL h tl (ys.map la) c') t tl ys c' := fun ys c' => ⟨x1, x2, x3, by rw [qL_sL, if_pos rfl], by rw [qC_sL, if_pos rfl]⟩
  refine V_aload_n (pc := 0) X 1 dX7_carryOut_0 rfl ?_
  refine V_get (pc := 1) X fl_X7_20 dX7_carryOut_1 o1 o5 ?_
  refine V_istore_n (pc := 4) X [(2, .int _), (0, .ref _), (1, .ref _)] dX7_carryOut_4 rfl (by decide) rfl ?_
  refine V_aload_n (pc := 5) X 2 dX7_carryOut_5 rfl ?_
  refine V_get (pc := 6) X fl_X7_26 dX7_carryOut_6 o1 o4 ?_
  refine V_bipush (pc := 9) (v := 105) X dX7_carryOut_9 (by decide) ?_
  refine V_icmp_ne (pc := 11) X 37 dX7_carryOut_11 (by decide) (fun c11 => ?_) (fun c11 => ?_)
  · have k1 : o.1 ≠ 1 := fun z => c11 ((kc_1 _).mpr z)
    refine V_aload_n (pc := 37) X 2 dX7_carryOut_37 rfl ?_
    refine V_get (pc := 38) X fl_X7_26 dX7_carryOut_38 o1 o4 ?_
    refine V_bipush (pc := 41) (v := 100) X dX7_carryOut_41 (by decide) ?_
    refine V_icmp_ne (pc := 43) X 63 dX7_carryOut_43 (by decide) (fun c43 => ?_) (fun c43 => ?_)
    · have k2 : o.1 ≠ 2 := fun z => c43 ((kc_2 _).mpr z)
      refine V_vret (pc := 63) X Q rfl dX7_carryOut_63 ?_
      first
      | (refine ⟨rfl, ?_, Fr_sL rfl⟩
         rw [x4, x5, List.length_map, map_ins, show apO o xs = xs.take o.2.1 ++ o.2.2.1 :: xs.drop o.2.1 from if_pos ⟨k1, p1⟩, hcd]
         exact FT _ _)
      | (refine ⟨rfl, ?_, Fr_sL rfl⟩
         rw [x4, x5, map_del, show apO o xs = xs.take o.2.1 ++ xs.drop (o.2.1 + 1) by unfold apO; rw [if_neg (by omega), if_pos ⟨k2, p2⟩], show caO o xs c = c from if_neg (by omega)]
         exact FT _ _)
      | (refine ⟨rfl, ?_, Fr.refl _ _⟩
         rw [show apO o xs = xs by unfold apO; rw [if_neg (by omega), if_neg (by omega)], show caO o xs c = c from if_neg (by omega)]
         exact hx)
    · have k2 : o.1 = 2 := (kc_2 _).mp c43
      try rw [ps_p _ (by omega)]
      refine V_aload_n (pc := 46) X 1 dX7_carryOut_46 rfl ?_
      refine V_iload_n (pc := 47) X 0 dX7_carryOut_47 rfl ?_
      refine V_callV (pc := 48) X clk7 (by decide) x1 _ (c_hasC hx) cw_X7_42 (Q.room (by decide) (by decide)) rfl (Nat.le_of_ble_eq_true rfl) rfl (by omega) dX7_carryOut_48 (fun _ _ z => z.elim) ?_
      rintro v48 h48 ⟨rfl, rfl⟩
      simp only [Option.toList_some, List.cons_append, List.nil_append]
      have hC := hasC_n (p := o.2.1) (n := xs.length) (by omega) (by omega)
      refine V_if_eq (pc := 51) X 63 dX7_carryOut_51 (by decide) (fun c51 => ?_) (fun c51 => ?_)
      · have p2 : ¬ o.2.1 < xs.length := fun z => by rw [if_pos (hC.mpr z)] at c51; exact absurd c51 (by decide)
        refine V_vret (pc := 63) X Q rfl dX7_carryOut_63 ?_
        first
        | (refine ⟨rfl, ?_, Fr_sL rfl⟩
           rw [x4, x5, List.length_map, map_ins, show apO o xs = xs.take o.2.1 ++ o.2.2.1 :: xs.drop o.2.1 from if_pos ⟨k1, p1⟩, hcd]
           exact FT _ _)
        | (refine ⟨rfl, ?_, Fr_sL rfl⟩
           rw [x4, x5, map_del, show apO o xs = xs.take o.2.1 ++ xs.drop (o.2.1 + 1) by unfold apO; rw [if_neg (by omega), if_pos ⟨k2, p2⟩], show caO o xs c = c from if_neg (by omega)]
           exact FT _ _)
        | (refine ⟨rfl, ?_, Fr.refl _ _⟩
           rw [show apO o xs = xs by unfold apO; rw [if_neg (by omega), if_neg (by omega)], show caO o xs c = c from if_neg (by omega)]
           exact hx)
      · have p2 : o.2.1 < xs.length := by
          by_cases z : o.2.1 < xs.length
          · exact z
          · rw [if_neg (fun y => z (hC.mp y))] at c51; exact absurd rfl c51
        refine V_aload_n (pc := 54) X 1 dX7_carryOut_54 rfl ?_
        refine V_get (pc := 55) X fl_X7_10 dX7_carryOut_55 x1 x2 ?_
        refine V_iload_n (pc := 58) X 0 dX7_carryOut_58 rfl ?_
        refine V_callL (pc := 59) X (Or.inl x3) _ (c_remove (x := la (xs[o.2.1])) x3 (by rw [x4, List.getElem?_map, List.getElem?_eq_getElem p2]; rfl) hel) cw_X7_45 (Q.room (by decide) (by decide)) rfl (Nat.le_of_ble_eq_true rfl) rfl (by omega) dX7_carryOut_59 (fun _ _ z => z.elim) ?_
        rintro v59 h59 ⟨rfl, rfl⟩
        simp only [Option.toList_some, List.cons_append, List.nil_append]
        refine V_pop (pc := 62) X dX7_carryOut_62 rfl ?_
        refine V_vret (pc := 63) X Q rfl dX7_carryOut_63 ?_
        first
        | (refine ⟨rfl, ?_, Fr_sL rfl⟩
           rw [x4, x5, List.length_map, map_ins, show apO o xs = xs.take o.2.1 ++ o.2.2.1 :: xs.drop o.2.1 from if_pos ⟨k1, p1⟩, hcd]
           exact FT _ _)
        | (refine ⟨rfl, ?_, Fr_sL rfl⟩
           rw [x4, x5, map_del, show apO o xs = xs.take o.2.1 ++ xs.drop (o.2.1 + 1) by unfold apO; rw [if_neg (by omega), if_pos ⟨k2, p2⟩], show caO o xs c = c from if_neg (by omega)]
           exact FT _ _)
        | (refine ⟨rfl, ?_, Fr.refl _ _⟩
           rw [show apO o xs = xs by unfold apO; rw [if_neg (by omega), if_neg (by omega)], show caO o xs c = c from if_neg (by omega)]
           exact hx)
  · have k1 : o.1 = 1 := (kc_1 _).mp c11
    rw [ps_p _ (by omega)]
    refine V_aload_n (pc := 14) X 1 dX7_carryOut_14 rfl ?_
    refine V_iload_n (pc := 15) X 0 dX7_carryOut_15 rfl ?_
    refine V_callV (pc := 16) X clk7 (by decide) x1 _ (c_hasP hx) cw_X7_30 (Q.room (by decide) (by decide)) rfl (Nat.le_of_ble_eq_true rfl) rfl (by omega) dX7_carryOut_16 (fun _ _ z => z.elim) ?_
    rintro v16 h16 ⟨rfl, rfl⟩
    simp only [Option.toList_some, List.cons_append, List.nil_append]
    have hP := hasP_n (p := o.2.1) (n := xs.length) (by omega) (by omega)
    refine V_if_eq (pc := 19) X 37 dX7_carryOut_19 (by decide) (fun c19 => ?_) (fun c19 => ?_)
    · have p1 : ¬ o.2.1 ≤ xs.length := fun z => by rw [if_pos (hP.mpr z)] at c19; exact absurd c19 (by decide)
      refine V_aload_n (pc := 37) X 2 dX7_carryOut_37 rfl ?_
      refine V_get (pc := 38) X fl_X7_26 dX7_carryOut_38 o1 o4 ?_
      refine V_bipush (pc := 41) (v := 100) X dX7_carryOut_41 (by decide) ?_
      refine V_icmp_ne (pc := 43) X 63 dX7_carryOut_43 (by decide) (fun c43 => ?_) (fun c43 => ?_)
      · have k2 : o.1 ≠ 2 := fun z => c43 ((kc_2 _).mpr z)
        refine V_vret (pc := 63) X Q rfl dX7_carryOut_63 ?_
        first
        | (refine ⟨rfl, ?_, Fr_sL rfl⟩
           rw [x4, x5, List.length_map, map_ins, show apO o xs = xs.take o.2.1 ++ o.2.2.1 :: xs.drop o.2.1 from if_pos ⟨k1, p1⟩, hcd]
           exact FT _ _)
        | (refine ⟨rfl, ?_, Fr_sL rfl⟩
           rw [x4, x5, map_del, show apO o xs = xs.take o.2.1 ++ xs.drop (o.2.1 + 1) by unfold apO; rw [if_neg (by omega), if_pos ⟨k2, p2⟩], show caO o xs c = c from if_neg (by omega)]
           exact FT _ _)
        | (refine ⟨rfl, ?_, Fr.refl _ _⟩
           rw [show apO o xs = xs by unfold apO; rw [if_neg (by omega), if_neg (by omega)], show caO o xs c = c from if_neg (by omega)]
           exact hx)
      · have k2 : o.1 = 2 := (kc_2 _).mp c43
        try rw [ps_p _ (by omega)]
        refine V_aload_n (pc := 46) X 1 dX7_carryOut_46 rfl ?_
        refine V_iload_n (pc := 47) X 0 dX7_carryOut_47 rfl ?_
        refine V_callV (pc := 48) X clk7 (by decide) x1 _ (c_hasC hx) cw_X7_42 (Q.room (by decide) (by decide)) rfl (Nat.le_of_ble_eq_true rfl) rfl (by omega) dX7_carryOut_48 (fun _ _ z => z.elim) ?_
        rintro v48 h48 ⟨rfl, rfl⟩
        simp only [Option.toList_some, List.cons_append, List.nil_append]
        have hC := hasC_n (p := o.2.1) (n := xs.length) (by omega) (by omega)
        refine V_if_eq (pc := 51) X 63 dX7_carryOut_51 (by decide) (fun c51 => ?_) (fun c51 => ?_)
        · have p2 : ¬ o.2.1 < xs.length := fun z => by rw [if_pos (hC.mpr z)] at c51; exact absurd c51 (by decide)
          refine V_vret (pc := 63) X Q rfl dX7_carryOut_63 ?_
          first
          | (refine ⟨rfl, ?_, Fr_sL rfl⟩
             rw [x4, x5, List.length_map, map_ins, show apO o xs = xs.take o.2.1 ++ o.2.2.1 :: xs.drop o.2.1 from if_pos ⟨k1, p1⟩, hcd]
             exact FT _ _)
          | (refine ⟨rfl, ?_, Fr_sL rfl⟩
             rw [x4, x5, map_del, show apO o xs = xs.take o.2.1 ++ xs.drop (o.2.1 + 1) by unfold apO; rw [if_neg (by omega), if_pos ⟨k2, p2⟩], show caO o xs c = c from if_neg (by omega)]
             exact FT _ _)
          | (refine ⟨rfl, ?_, Fr.refl _ _⟩
             rw [show apO o xs = xs by unfold apO; rw [if_neg (by omega), if_neg (by omega)], show caO o xs c = c from if_neg (by omega)]
             exact hx)
        · have p2 : o.2.1 < xs.length := by
            by_cases z : o.2.1 < xs.length
            · exact z
            · rw [if_neg (fun y => z (hC.mp y))] at c51; exact absurd rfl c51
          refine V_aload_n (pc := 54) X 1 dX7_carryOut_54 rfl ?_
          refine V_get (pc := 55) X fl_X7_10 dX7_carryOut_55 x1 x2 ?_
          refine V_iload_n (pc := 58) X 0 dX7_carryOut_58 rfl ?_
          refine V_callL (pc := 59) X (Or.inl x3) _ (c_remove (x := la (xs[o.2.1])) x3 (by rw [x4, List.getElem?_map, List.getElem?_eq_getElem p2]; rfl) hel) cw_X7_45 (Q.room (by decide) (by decide)) rfl (Nat.le_of_ble_eq_true rfl) rfl (by omega) dX7_carryOut_59 (fun _ _ z => z.elim) ?_
          rintro v59 h59 ⟨rfl, rfl⟩
          simp only [Option.toList_some, List.cons_append, List.nil_append]
          refine V_pop (pc := 62) X dX7_carryOut_62 rfl ?_
          refine V_vret (pc := 63) X Q rfl dX7_carryOut_63 ?_
          first
          | (refine ⟨rfl, ?_, Fr_sL rfl⟩
             rw [x4, x5, List.length_map, map_ins, show apO o xs = xs.take o.2.1 ++ o.2.2.1 :: xs.drop o.2.1 from if_pos ⟨k1, p1⟩, hcd]
             exact FT _ _)
          | (refine ⟨rfl, ?_, Fr_sL rfl⟩
             rw [x4, x5, map_del, show apO o xs = xs.take o.2.1 ++ xs.drop (o.2.1 + 1) by unfold apO; rw [if_neg (by omega), if_pos ⟨k2, p2⟩], show caO o xs c = c from if_neg (by omega)]
             exact FT _ _)
          | (refine ⟨rfl, ?_, Fr.refl _ _⟩
             rw [show apO o xs = xs by unfold apO; rw [if_neg (by omega), if_neg (by omega)], show caO o xs c = c from if_neg (by omega)]
             exact hx)
    · have p1 : o.2.1 ≤ xs.length := by
        by_cases z : o.2.1 ≤ xs.length
        · exact z
        · rw [if_neg (fun y => z (hP.mp y))] at c19; exact absurd rfl c19
      have hcd : caO o xs c = gcap xs.length c := if_pos ⟨k1, p1⟩
      refine V_aload_n (pc := 22) X 1 dX7_carryOut_22 rfl ?_
      refine V_get (pc := 23) X fl_X7_10 dX7_carryOut_23 x1 x2 ?_
      refine V_iload_n (pc := 26) X 0 dX7_carryOut_26 rfl ?_
      refine V_aload_n (pc := 27) X 2 dX7_carryOut_27 rfl ?_
      refine V_get (pc := 28) X fl_X7_34 dX7_carryOut_28 o1 o3 ?_
      refine V_callL (pc := 31) X (Or.inl x3) _ (c_addAt x3 (by rw [hl5 k1]; omega) (by rw [x5]; exact hc) (by rw [x4, List.length_map]; exact p1) hel) cw_X7_38 (Q.room (by decide) (by decide)) rfl (Nat.le_of_ble_eq_true rfl) rfl (by rw [hcd, x5, x4, List.length_map]; omega) dX7_carryOut_31 (fun _ _ z => z.elim) ?_
      rintro v31 h31 ⟨rfl, rfl⟩
      simp only [Option.toList_none, List.nil_append]
      refine V_goto (pc := 34) X 63 dX7_carryOut_34 (by decide) ?_
      refine V_vret (pc := 63) X Q rfl dX7_carryOut_63 ?_
      first
      | (refine ⟨rfl, ?_, Fr_sL rfl⟩
         rw [x4, x5, List.length_map, map_ins, show apO o xs = xs.take o.2.1 ++ o.2.2.1 :: xs.drop o.2.1 from if_pos ⟨k1, p1⟩, hcd]
         exact FT _ _)
      | (refine ⟨rfl, ?_, Fr_sL rfl⟩
         rw [x4, x5, map_del, show apO o xs = xs.take o.2.1 ++ xs.drop (o.2.1 + 1) by unfold apO; rw [if_neg (by omega), if_pos ⟨k2, p2⟩], show caO o xs c = c from if_neg (by omega)]
         exact FT _ _)
      | (refine ⟨rfl, ?_, Fr.refl _ _⟩
         rw [show apO o xs = xs by unfold apO; rw [if_neg (by omega), if_neg (by omega)], show caO o xs c = c from if_neg (by omega)]
         exact hx)
