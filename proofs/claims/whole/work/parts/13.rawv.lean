/-! ROWS OVER RAW LISTS -/
section VRAW
variable {E : EV} {Γ : VG} {own : String} {cc : ByteArray} {nL b : Nat} {h : AH} {pc : Nat} {lv : List (Nat × Value)} {st : List Value}
theorem HP.raw {E : EV} {h : AH} {H : Heap} {a : Nat} (hp : HP E h H) (hk : qK h a = 18) : t_OB a ((eD E).1 10) 3 ((eD E).2 10) H (fun k => qF h (1000 + k) a) := by
  obtain ⟨bk, mcn, p1, -, -⟩ := hp
  exact (p1 a (by omega)).2.2.2.2.1 hk
theorem HP.row19 {E : EV} {h : AH} {H : Heap} {a : Nat} (hp : HP E h H) (hk : qK h a = 19) : eN E ≤ a ∧ H[a]? = some (arrV (eA E 0) (qL h a).length (fun j => va_rf (rdc ((qL h a).getD j 0)))) := by
  obtain ⟨bk, mcn, p1, -, -⟩ := hp
  obtain ⟨b1, b2, b3⟩ := p1 a (by omega)
  exact ⟨b1, b3.2.2.2.2.2.2.2 hk⟩
theorem HP.set19 {E : EV} {h : AH} {H H1 : Heap} {a : Nat} {r : List Nat} (h2 : HP E h H) (hk : qK h a = 19) (e2 : H1.size = H.size) (e3 : ∀ q, q ≠ a → H1[q]? = H[q]?) (e1 : H1[a]? = some (arrV (eA E 0) r.length (fun j => va_rf (rdc (r.getD j 0))))) : HP E (sR h a r) H1 := by
  obtain ⟨bk, mcn, p1, p2, p3⟩ := h2
  refine ⟨bk, mcn, fun c hc => ?_, fun c hc => ?_, fun c d hc hd hc0 hd0 hcd => ?_⟩
  · rw [qK_sL] at hc
    obtain ⟨b1, b2, b3⟩ := p1 c hc
    refine ⟨b1, by rw [e2]; exact b2, ?_⟩
    by_cases e : c = a
    · subst e
      unfold qAt
      simp only [qK_sL, hk, qL_sL, if_pos]
      exact ⟨fun z => by omega, fun z => by omega, fun z => by omega, fun z => by omega, fun z => by omega, fun z => by omega, fun z => by omega, fun _ => e1⟩
    · exact b3.kept (e3 c e) rfl (fun _ => rfl) rfl (by rw [qL_sL, if_neg e]) rfl rfl
  · rw [qK_sL] at hc
    have e : c ≠ a := fun e => by rw [e, hk] at hc; omega
    have z := p2 c hc
    unfold qLB at z ⊢
    rw [qL_sL, if_neg e, qC_sL, if_neg e, qK_sL]
    rcases z with z | ⟨z1, z2, z3, z4, z5, z6⟩
    · exact Or.inl z
    · exact Or.inr ⟨z1, z2, z3, z4, z5, by rw [e3 _ (fun y => by rw [y, hk] at z5; omega)]; exact z6⟩
  · rw [qK_sL] at hc hd
    have e : c ≠ a := fun e => by rw [e, hk] at hc; omega
    have e' : d ≠ a := fun e => by rw [e, hk] at hd; omega
    rw [qC_sL, if_neg e] at hc0
    rw [qC_sL, if_neg e'] at hd0
    exact p3 c d hc hd hc0 hd0 hcd
theorem V_getL (X : CX E Γ own cc nL) {f index a : Nat} {ty : FieldType} {v : Value} (F : FR f own index ty) (hin : ∀ w ∈ u_ws RJx4a65c TJx4a65c 3, w ∈ WS) (d : decode cc pc = .ok (.getfield index, 3)) (hk : qK h a = 18) (hv : qF h f a = v) (k : V E Γ b h (pc + 3) lv (v :: st)) : V E Γ b h pc lv (.ref a :: st) := by
  intro ls H locs k9 n9 h1 h2 h3 h4 h5
  obtain ⟨j, rfl, hlt, f3, ref, f4, f5⟩ := F
  obtain ⟨cell, q1, q2, q3, q4⟩ := h2.raw hk
  obtain ⟨hS, hfc, kC, hkC, hkind⟩ := X.en.1.1 10 _ rfl
  obtain ⟨cf, kf, fi, fd, hi, hsl⟩ := hS j hlt
  have hi' : (gs Γ).fieldFound? ref (TJx4a65c j).2.1 (TJx4a65c j).2.2.1 = some (cf, kf, fi, fd) := by
    rcases f5 with z | z
    · rw [z]; exact hi
    · exact u_same (X.ts _ z) _ hi
  refine W.getf X.1 X.2.1 X.ow (X.ts _ f4) hi' (u_facts hfc hkC (u_lays X.ts hin hlt) hi).1 q1 (by rw [q3]; exact fun h => by cases h) (v := v) ?_ rfl rfl d (k ls H locs k9 n9 h1 h2 h3 h4 h5)
  rw [hsl, q4 _ hlt]
  show some (qF h (1000 + j) a) = some v
  rw [hv]
theorem V_putL (X : CX E Γ own cc nL) {f index a : Nat} {ty : FieldType} {v : Value} (F : FR f own index ty) (hin : ∀ w ∈ u_ws RJx4a65c TJx4a65c 3, w ∈ WS) (d : decode cc pc = .ok (.putfield index, 3)) (hk : qK h a = 18) (hn : narrow ty v = v ∧ fits ty v = true) (k : V E Γ b (sF h f a v) (pc + 3) lv st) : V E Γ b h pc lv (v :: .ref a :: st) := by
  intro ls H locs k9 n9 h1 h2 h3 h4 h5
  obtain ⟨j, rfl, hlt, f3, ref, f4, f5⟩ := F
  have hap := va_apart (own := own) X.ts hin tyJx4a65c tyJx4a65c_ok nmJx4a65c X.en.1 (ci := 10) rfl
  obtain ⟨cell, q1, q2, q3, q4⟩ := h2.raw hk
  obtain ⟨hS, hfc, kC, hkC, hkind⟩ := X.en.1.1 10 _ rfl
  obtain ⟨cf, kf, fi, fd, hi, hsl⟩ := hS j hlt
  have hi' : (gs Γ).fieldFound? ref (TJx4a65c j).2.1 (TJx4a65c j).2.2.1 = some (cf, kf, fi, fd) := by
    rcases f5 with z | z
    · rw [z]; exact hi
    · exact u_same (X.ts _ z) _ hi
  have hlay := X.ts _ (hin _ (u_in_lay hlt))
  have hfin : (TJx4a65c j).2.2.2 = false := by
    rcases (show j = 0 ∨ j = 1 ∨ j = 2 by omega) with z | z | z <;> rw [z] <;> rfl
  unfold u_lay at hlay
  rw [if_neg (by rw [hfin]; decide)] at hlay
  have hst := (u_facts hfc hkC (u_lays X.ts hin hlt) hi).1
  have h6 := u_store hfc hkC hkind hlay hi (tyJx4a65c_ok _ hlt) (by rw [f3]; exact hn.1) (by rw [f3]; exact hn.2)
  refine W.putK X.1 X.2.1 (f := fd) ⟨X.ow, X.ts _ f4, ⟨_, _, _, hi'⟩, hst⟩ (by rw [q2]; exact h6) q1 q3 (by rw [hsl]; exact k2_hasslot (q4 _ hlt)) rfl rfl d fun H' e1 e2 e3 => ?_
  rw [hsl] at e1 ⊢
  refine k ls H' _ k9 n9 h1 ?_ (h3.put e2 e3 ?_) h4 h5
  · refine h2.upd (a := a) (by rw [hk]; omega) (by rw [hk]; omega) rfl rfl rfl (fun g x hx => by rw [qF_sF, if_neg (fun z => hx z.2)]) (fun _ _ => rfl) e2 e3 (fun bk mcn z => ?_)
    unfold qAt
    simp only [qK_sF, hk]
    refine ⟨fun z => by omega, fun z => by omega, fun _ => ?_, fun z => by omega, fun z => by omega, fun z => by omega, fun z => by omega, fun z => by omega⟩
    refine t_OB.to (V := updV (fun k => qF h (1000 + k) a) j v) ⟨_, e1, q2, q3, t_set q4 hap hlt v⟩ (fun i hi9 => ?_)
    by_cases e : i = j
    · rw [e, qF_sF, if_pos ⟨rfl, rfl⟩, updV, if_pos rfl]
    · rw [qF_sF, if_neg (fun z => e (by have := z.1; omega)), updV, if_neg e]
  · obtain ⟨bk, mcn, p1, -, -⟩ := h2
    exact (p1 a (by rw [hk]; omega)).1
theorem V_alen (X : CX E Γ own cc nL) {a : Nat} (hk : qK h a = 19) (d : decode cc pc = .ok (.arraylength, 1)) (k : V E Γ b h (pc + 1) lv (.int (nI (qL h a).length) :: st)) : V E Γ b h pc lv (.ref a :: st) := by
  intro ls H locs k9 n9 h1 h2 h3 h4 h5
  exact W.alen (n := Int32.ofNat (qL h a).length) X.1 X.2.1 (h2.row19 hk).2 ((X.en.1.2 0 _ rfl).1 _ _) (by rw [arrV_size]) rfl rfl d (k ls H locs k9 n9 h1 h2 h3 h4 h5)
theorem V_alenZ (X : CX E Γ own cc nL) (d : decode cc pc = .ok (.arraylength, 1)) (k : V E Γ b h (pc + 1) lv (.int 0 :: st)) : V E Γ b h pc lv (.ref (eZ E) :: st) := by
  intro ls H locs k9 n9 h1 h2 h3 h4 h5
  obtain ⟨cell, z1, z2, z3, z4, z5, z6, z7⟩ := va_T.kept X.en.2.2.1 h3.2.1
  exact W.alen (n := 0) X.1 X.2.1 z1 z2 (by rw [z5]; rfl) rfl rfl d (k ls H locs k9 n9 h1 h2 h3 h4 h5)
theorem V_gets (X : CX E Γ own cc nL) {index : Nat} (hw : Cond.fieldLink own index "java/util/ArrayList" "DEFAULTCAPACITY_EMPTY_ELEMENTDATA" "[Ljava/lang/Object;" ∈ WS) (d : decode cc pc = .ok (.getstatic index, 3)) (k : V E Γ b h (pc + 3) lv (.ref (eZ E) :: st)) : V E Γ b h pc lv st := by
  intro ls H locs k9 n9 h1 h2 h3 h4 h5
  exact va_gets X.1 X.2.1 X.en.2.1 h3 X.ow (X.ts _ hw) (fun _ z => z) d (k ls H locs k9 n9 h1 h2 h3 h4 h5)
theorem V_acmp_eq (X : CX E Γ own cc nL) {x y : Nat} {off : Int} (tgt : Nat) (d : decode cc pc = .ok (.if_acmp .eq off, 3)) (ht : (pc : Int) + off = (tgt : Int)) (kt : x = y → V E Γ b h tgt lv st) (kf : ¬ x = y → V E Γ b h (pc + 3) lv st) : V E Γ b h pc lv (.ref y :: .ref x :: st) :=
  fun ls H locs k9 n9 h1 h2 h3 h4 h5 => lv_acmp_eq (rx := some x) (ry := some y) X.1 X.2.1 d ht (fun c => kt (Option.some.inj c) ls H locs k9 n9 h1 h2 h3 h4 h5) (fun c => kf (fun e => c (by rw [e])) ls H locs k9 n9 h1 h2 h3 h4 h5)
theorem V_ishr (X : CX E Γ own cc nL) {x y : Int32} (d : decode cc pc = .ok (.ishr, 1)) (k : ∀ v, v = x >>> (y &&& 31) → V E Γ b h (pc + 1) lv (.int v :: st)) : V E Γ b h pc lv (.int y :: .int x :: st) :=
  fun ls H locs k9 n9 h1 h2 h3 h4 h5 => lv_ishr X.1 X.2.1 d (k _ rfl ls H locs k9 n9 h1 h2 h3 h4 h5)
theorem V_mmax (X : CX E Γ own cc nL) {index : Nat} {x y : Int32} (hw : Cond.methodLink own index Lib.Math.max.name ∈ WS ∧ Cond.static Lib.Math.max.name ∈ WS ∧ Cond.initialized "java/lang/Math" ∈ WS ∧ Cond.code Lib.Math.max.name Lib.Math.max.code 2 (some .int) ∈ WS) (hR : 1 ≤ (gR Γ).frames ∧ 21 ≤ (gR Γ).locals) (hc : (st.map fun v => v.category).sum ≤ 8) (d : decode cc pc = .ok (.invokestatic index, 3)) (k : V E Γ b h (pc + 3) lv (.int (if x < y then y else x) :: st)) : V E Γ b h pc lv (.int y :: .int x :: st) := by
  intro ls H locs k9 n9 h1 h2 h3 h4 h5
  exact va_mmax X.1 X.2.1 h1.1.symm X.ow (X.ts _ hw.1) (X.ts _ hw.2.1) (X.ts _ hw.2.2.1) (X.ts _ hw.2.2.2) hR.1 (by omega) (by omega) (by omega) d (k ls H locs k9 n9 h1 h2 h3 h4 h5)
theorem V_mmin (X : CX E Γ own cc nL) {index : Nat} {x y : Int32} (hw : Cond.methodLink own index Lib.Math.min.name ∈ WS ∧ Cond.static Lib.Math.min.name ∈ WS ∧ Cond.initialized "java/lang/Math" ∈ WS ∧ Cond.code Lib.Math.min.name Lib.Math.min.code 2 (some .int) ∈ WS) (hR : 1 ≤ (gR Γ).frames ∧ 21 ≤ (gR Γ).locals) (hc : (st.map fun v => v.category).sum ≤ 8) (d : decode cc pc = .ok (.invokestatic index, 3)) (k : V E Γ b h (pc + 3) lv (.int (if y < x then y else x) :: st)) : V E Γ b h pc lv (.int y :: .int x :: st) := by
  intro ls H locs k9 n9 h1 h2 h3 h4 h5
  exact va_mmin X.1 X.2.1 h1.1.symm X.ow (X.ts _ hw.1) (X.ts _ hw.2.1) (X.ts _ hw.2.2.1) (X.ts _ hw.2.2.2) hR.1 (by omega) (by omega) (by omega) d (k ls H locs k9 n9 h1 h2 h3 h4 h5)
theorem V_aald (X : CX E Γ own cc nL) {a x : Nat} {i : Int32} (hk : qK h a = 19) (hin : vp_in i (qL h a).length) (hv : rdc ((qL h a).getD i.toNatClampNeg 0) = some x) (d : decode cc pc = .ok (.aaload, 1)) (k : V E Γ b h (pc + 1) lv (.ref x :: st)) : V E Γ b h pc lv (.int i :: .ref a :: st) := by
  intro ls H locs k9 n9 h1 h2 h3 h4 h5
  have hlt : i.toNatClampNeg < (qL h a).length := Nat.not_le.mp fun q => hin (Or.inr q)
  exact W.aald (v := .ref x) (ty := .object "java/lang/Object") X.1 X.2.1 (h2.row19 hk).2 ((X.en.1.2 0 _ rfl).1 _ _) rfl (fun q => by cases q) (by rw [arrV_size]; exact hin) (by rw [arrV_read _ _ hlt, hv]; rfl) rfl rfl d (k ls H locs k9 n9 h1 h2 h3 h4 h5)
theorem upd_setR (l : List Nat) (i x : Nat) (hi : i < l.length) : updV (fun j => va_rf (rdc (l.getD j 0))) i (va_rf (rdc x)) = fun j => va_rf (rdc ((l.set i x).getD j 0)) := by
  funext j
  unfold updV
  by_cases e : j = i
  · subst e
    rw [if_pos rfl]
    simp [hi]
  · rw [if_neg e]
    simp [List.getElem?_set_ne (Ne.symm e)]
/-- every object of ours may lie in a row of objects -/
theorem castO : ∀ ci r, ci ≤ 9 → kcl[ci]? = some r → Cond.castable r.1 "java/lang/Object" ∈ WN := by
  intro ci r hci hr
  rcases (show ci = 0 ∨ ci = 1 ∨ ci = 2 ∨ ci = 3 ∨ ci = 4 ∨ ci = 5 ∨ ci = 6 ∨ ci = 7 ∨ ci = 8 ∨ ci = 9 by omega) with z | z | z | z | z | z | z | z | z | z <;> subst z <;> cases hr
  · exact wnm 1630 (by decide +kernel) (by decide +kernel)
  · exact wnm 1631 (by decide +kernel) (by decide +kernel)
  · exact wnm 1627 (by decide +kernel) (by decide +kernel)
  · exact wnm 1642 (by decide +kernel) (by decide +kernel)
  · exact wnm 1637 (by decide +kernel) (by decide +kernel)
  · exact wnm 1641 (by decide +kernel) (by decide +kernel)
  · exact wnm 1638 (by decide +kernel) (by decide +kernel)
  · exact wnm 1628 (by decide +kernel) (by decide +kernel)
  · exact wnm 1626 (by decide +kernel) (by decide +kernel)
  · exact wnm 1632 (by decide +kernel) (by decide +kernel)
theorem qAny {s : State} {H : Heap} {v : Nat} (hp : HP E h H) (hE : EN E s) (hv : 1 ≤ qK h v ∧ qK h v ≤ 10) : va_Any "java/lang/Object" s H v := by
  obtain ⟨ci, hci⟩ : ∃ ci, qK h v = ci + 1 := ⟨qK h v - 1, by omega⟩
  have hc9 : ci ≤ 9 := by omega
  obtain ⟨cell, q1, q2, q3, q4⟩ := hp.obj hci hc9
  obtain ⟨r, hr⟩ : ∃ r, kcl[ci]? = some r := by
    have : ci < kcl.length := by show ci < 11; omega
    exact ⟨kcl[ci], List.getElem?_eq_getElem this⟩
  obtain ⟨hS, hfc, kC, hkC, hkind⟩ := hE.1.1 ci r hr
  refine ⟨cell, q1, by rw [q3]; rfl, ⟨kC, by rw [q2]; exact hkC⟩, fun comp hcomp => ?_⟩
  have hn := hE.2.2.2.2.2.1 _ (castO ci r hc9 hr)
  obtain ⟨c0, t1, f1, f2, f3⟩ := Cond.castable_spec hn
  have e1 : c0 = (eD E).1 ci := Option.some.inj (f1.symm.trans hfc)
  have e2 : t1 = comp := Option.some.inj (f2.symm.trans hcomp)
  rw [q2, ← e1, ← e2]
  exact f3
theorem V_aast (X : CX E Γ own cc nL) {a v : Nat} {i : Int32} (hk : qK h a = 19) (hv : 1 ≤ qK h v ∧ qK h v ≤ 10) (hin : vp_in i (qL h a).length) (d : decode cc pc = .ok (.aastore, 1)) (k : V E Γ b (sR h a ((qL h a).set i.toNatClampNeg (v + 1))) (pc + 1) lv st) : V E Γ b h pc lv (.ref v :: .int i :: .ref a :: st) := by
  intro ls H locs k9 n9 h1 h2 h3 h4 h5
  have hlt : i.toNatClampNeg < (qL h a).length := Nat.not_le.mp fun q => hin (Or.inr q)
  have h0 : ¬ i < 0 := fun q => hin (Or.inl q)
  obtain ⟨cellV, g1, g3, ⟨kC, hkC⟩, hasg⟩ := qAny h2 X.en hv
  obtain ⟨kA, comp, k1, k2, k3, -⟩ := (X.en.1.2 0 _ rfl).2
  obtain ⟨kE, hkE, -⟩ := Vm.findClass_spec k3
  obtain ⟨r1, r2⟩ := h2.row19 hk
  refine W.aast X.1 X.2.1 r2 (fun q h => by cases h) (fun h => by cases h) k1 k2 rfl hkE ⟨h0, by rw [arrV_size]; exact hlt⟩ g1 (fun q h => by rw [h] at g3; cases g3) hkC (hasg _ k3) rfl rfl d fun H1 e z oq => ?_
  refine k ls H1 _ k9 n9 h1 (h2.set19 hk z oq ?_) (h3.put z oq r1) h4 h5
  rw [e, arrV_store, show (Value.ref v) = va_rf (rdc (v + 1)) from rfl, upd_setR _ _ _ hlt, List.length_set]
theorem V_aastN (X : CX E Γ own cc nL) {a : Nat} {i : Int32} (hk : qK h a = 19) (hin : vp_in i (qL h a).length) (d : decode cc pc = .ok (.aastore, 1)) (k : V E Γ b (sR h a ((qL h a).set i.toNatClampNeg 0)) (pc + 1) lv st) : V E Γ b h pc lv (.null :: .int i :: .ref a :: st) := by
  intro ls H locs k9 n9 h1 h2 h3 h4 h5
  have hlt : i.toNatClampNeg < (qL h a).length := Nat.not_le.mp fun q => hin (Or.inr q)
  obtain ⟨r1, r2⟩ := h2.row19 hk
  refine va_WaastN (C := "java/lang/Object") X.1 X.2.1 r2 ((X.en.1.2 0 _ rfl).1 _ _) (fun h => by cases h) (by rw [arrV_size]; exact hin) rfl rfl d fun H1 e z oq => ?_
  refine k ls H1 _ k9 n9 h1 (h2.set19 hk z oq ?_) (h3.put z oq r1) h4 h5
  rw [e, arrV_store, show Value.null = va_rf (rdc 0) from rfl, upd_setR _ _ _ hlt, List.length_set]
theorem V_anew (X : CX E Γ own cc nL) {index N u : Nat} {n : Int32} (hw : Cond.classLink own index "java/lang/Object" ∈ WS) (hn : ¬ n < 0) (hN : n.toNatClampNeg = N) (hbytes : N * 4 ≤ 536870912) (hu : 3 ≤ u ∧ N ≤ 4 * u ∧ u ≤ b) (d : decode cc pc = .ok (.anewarray index, 3))
    (k : ∀ q, qK h q = 0 → V E Γ (b - u) (sR (sK h q 19) q (List.replicate N 0)) (pc + 3) lv (.ref q :: st)) : V E Γ b h pc lv (.int n :: st) := by
  intro ls H locs k9 n9 h1 h2 h3 h4 h5
  subst hN
  refine W.anew X.1 X.2.1 X.ow (X.ts _ hw) (va_AO.use X.en.2.2.2.2.2.2.2.2.1) rfl d rfl hn hbytes (by omega) (by omega) fun cA kA comp f1 f2 f3 f4 => ?_
  generalize hH1 : H.push ({ cls := cA, slots := Array.replicate n.toNatClampNeg .null, vm := .none } : Cell) = H1
  have z1 : H1.size = H.size + 1 := by rw [← hH1, Array.size_push]
  have e1 : H1[H.size]? = some (arrV cA n.toNatClampNeg (fun _ => .null)) := by rw [← hH1, Array.getElem?_push_size, ← arrV_new]
  have o1 : ∀ q : Nat, q < H.size → H1[q]? = H[q]? := fun q hq => by rw [← hH1, Array.getElem?_push, if_neg (Nat.ne_of_lt hq)]
  have hA : cA = eA E 0 := by
    obtain ⟨kA', comp', k1, k2, k3, k4⟩ := (X.en.1.2 0 _ rfl).2
    exact Option.some.inj (f1.symm.trans k4)
  have hN2 : eN E ≤ H.size := Nat.le_trans X.en.2.2.2.2.2.2.2.1 h3.1
  have key := h2.add (h1 := sR (sK h H.size 19) H.size (List.replicate n.toNatClampNeg 0)) (H1 := H1) (q := H.size) rfl hN2 (by rw [qK_sL, qK_sK, if_pos rfl]; omega) (fun x hx => by rw [qK_sL, qK_sK, if_neg hx]) (fun x hx => by rw [qL_sL, if_neg hx]; rfl) (fun x hx => by rw [qC_sL, if_neg hx]; rfl) (fun f x hx => rfl) (fun x hx => rfl) z1 o1 (fun bk mcn => by
    unfold qAt
    simp only [qK_sL, qK_sK, if_pos, qL_sL, List.length_replicate]
    refine ⟨fun z => by omega, fun z => by omega, fun z => by omega, fun z => by omega, fun z => by omega, fun z => by omega, fun z => by omega, fun _ => ?_⟩
    rw [e1, hA]
    congr 2
    funext j
    simp only [List.getD_eq_getElem?_getD, List.getElem?_replicate]
    split <;> rfl)
  exact k H.size key.2 ls H1 _ (k9 + 1) (n9 + n.toNatClampNeg) h1 key.1 ⟨Nat.le_trans h3.1 (by omega), fun x x1 x2 => (o1 x (Nat.lt_of_lt_of_le x1 h3.1)).trans (h3.2.1 x x1 x2), h3.2.2⟩ (by omega) (by omega)
/-- what arraycopy leaves in the row r1: n of r0's from sp on, from dp on -/
def rcp (r0 r1 : List Nat) (sp dp n : Nat) : List Nat := (List.range r1.length).map (fun j => if dp ≤ j ∧ j < dp + n then r0.getD (sp + (j - dp)) 0 else r1.getD j 0)
theorem rcp_len (r0 r1 : List Nat) (sp dp n : Nat) : (rcp r0 r1 sp dp n).length = r1.length := by simp [rcp]
theorem rcp_get {r0 r1 : List Nat} {sp dp n j : Nat} (hj : j < r1.length) : (rcp r0 r1 sp dp n).getD j 0 = if dp ≤ j ∧ j < dp + n then r0.getD (sp + (j - dp)) 0 else r1.getD j 0 := by
  rw [List.getD_eq_getElem?_getD, List.getElem?_eq_getElem (by rw [rcp_len]; exact hj)]
  simp [rcp]
theorem V_copy (X : CX E Γ own cc nL) {index a0 a : Nat} {sp dp n : Int32} (hw : Cond.methodLink own index arraycopyName ∈ WS ∧ Cond.native arraycopyName ∈ WS ∧ Cond.static arraycopyName ∈ WS ∧ Cond.initialized "java/lang/System" ∈ WS) (hk0 : qK h a0 = 19) (hk : qK h a = 19)
    (h1s : ¬ sp < 0) (h2s : ¬ dp < 0) (h3s : ¬ n < 0) (h4s : sp.toNatClampNeg + n.toNatClampNeg ≤ (qL h a0).length) (h5s : dp.toNatClampNeg + n.toNatClampNeg ≤ (qL h a).length) (hel : ∀ i : Nat, i < n.toNatClampNeg → ∀ y : Nat, rdc ((qL h a0).getD (sp.toNatClampNeg + i) 0) = some y → 1 ≤ qK h y ∧ qK h y ≤ 10)
    (hR : 1 ≤ (gR Γ).frames ∧ nativeFrameWords "java/lang/System" "arraycopy" 5 + 19 ≤ (gR Γ).locals) (hc : (st.map fun v => v.category).sum ≤ 8) (d : decode cc pc = .ok (.invokestatic index, 3))
    (k : V E Γ b (sR h a (rcp (qL h a0) (qL h a) sp.toNatClampNeg dp.toNatClampNeg n.toNatClampNeg)) (pc + 3) lv st) : V E Γ b h pc lv (.int n :: .int dp :: .ref a :: .int sp :: .ref a0 :: st) := by
  intro ls H locs k9 n9 h1 h2 h3 h4 h5
  have nn : ∀ z : Int32, ¬ z < 0 → z.toInt = (z.toNatClampNeg : Int) := by
    intro z hz
    have hz0 : (0 : Int) ≤ z.toInt := by
      have := Int32.not_lt.mp hz
      simpa using Int32.le_iff_toInt_le.mp this
    show z.toInt = ((z.toInt.toNat : Nat) : Int)
    omega
  obtain ⟨b1, hc0⟩ := h2.row19 hk0
  obtain ⟨b2, hc1⟩ := h2.row19 hk
  intro T hT Y
  obtain ⟨-, k0, hkk0, cm0, hkd0⟩ := (X.en.1.2 0 _ rfl).1 (qL h a0).length (fun j => va_rf (rdc ((qL h a0).getD j 0)))
  obtain ⟨-, k1, hkk1, cm1, hkd1⟩ := (X.en.1.2 0 _ rfl).1 (qL h a).length (fun j => va_rf (rdc ((qL h a).getD j 0)))
  obtain ⟨vm', X', step⟩ := Y.arraycopy X.1 X.ow (X.ts _ hw.1) (X.ts _ hw.2.1) (X.ts _ hw.2.2.1) (X.ts _ hw.2.2.2) (src := a0) (dst := a) (cs := arrV (eA E 0) (qL h a0).length (fun j => va_rf (rdc ((qL h a0).getD j 0)))) (cd := arrV (eA E 0) (qL h a).length (fun j => va_rf (rdc ((qL h a).getD j 0)))) (srcPos := sp) (destPos := dp) (n := n) (by rw [hT]; exact hc0) (by rw [hT]; exact hc1)
    (fun _ h => by cases h) (fun _ h => by cases h) (fun h => by cases h) (fun h => by cases h) hkk0 hkk1 hkd0 hkd1 rfl h1s h2s h3s
    (by rw [nn sp h1s, nn n h3s, arrV_size]; omega)
    (by rw [nn dp h2s, nn n h3s, arrV_size]; omega)
    (fun vm₁ hal i hi => by
      have e : (arrV (eA E 0) (qL h a0).length (fun j => va_rf (rdc ((qL h a0).getD j 0)))).slots.getD (sp.toNatClampNeg + i) .null = va_rf (rdc ((qL h a0).getD (sp.toNatClampNeg + i) 0)) := by
        rw [Array.getD_eq_getD_getElem?, arrV_read _ _ (by omega)]
        rfl
      rw [e]
      cases hy : rdc ((qL h a0).getD (sp.toNatClampNeg + i) 0) with
      | none => exact ⟨rfl, trivial⟩
      | some y =>
        obtain ⟨cellV, g1, g2, ⟨kC, hkC⟩, hasg⟩ := qAny h2 X.en (hel i hi y hy)
        obtain ⟨kA, comp, r1, r2, r3, -⟩ := (X.en.1.2 0 _ rfl).2
        cases hkk1.symm.trans r1
        cases hkd1.symm.trans r2
        obtain ⟨kE, hkE, -⟩ := Vm.findClass_spec r3
        obtain ⟨kC', hkC', -⟩ := hal.2.2 _ _ hkC
        obtain ⟨kE', hkE', -⟩ := hal.2.2 _ _ hkE
        refine ⟨rfl, cellV, (show T.heap[y]? = some cellV by rw [hT]; exact g1), (fun q h => by rw [h] at g2; cases g2), ⟨kC', hkC'⟩, ?_, ?_⟩
        · exact ⟨kE', hkE'⟩
        · show vm₁.assignable _ _ = true
          rw [hal.assignable]
          exact hasg _ r3)
    (g := F0 (gm Γ) pc ls (.int n :: .int dp :: .ref a :: .int sp :: .ref a0 :: st)) rfl h1.1 (rest := st) rfl (by rw [X.2.1]; exact d) hR.1 (by show 2 * 0 + _ + _ ≤ _; omega)
  have e1 : copied (arrV (eA E 0) (qL h a0).length (fun j => va_rf (rdc ((qL h a0).getD j 0)))) (arrV (eA E 0) (qL h a).length (fun j => va_rf (rdc ((qL h a).getD j 0)))) sp dp n = arrV (eA E 0) (qL h a).length (fun j => va_rf (rdc ((rcp (qL h a0) (qL h a) sp.toNatClampNeg dp.toNatClampNeg n.toNatClampNeg).getD j 0))) := by
    refine (va_copied (fun z => va_rf z) (eA E 0) (eA E 0) (fun j => rdc ((qL h a0).getD j 0)) (fun j => rdc ((qL h a).getD j 0)) h4s).trans (arrV_congr (fun j hj => ?_))
    rw [rcp_get hj]
    show va_rf (va_cpy _ _ _ _ _ j) = _
    unfold va_cpy
    split <;> rfl
  rw [e1] at X' step
  have hl : a < H.size := (Array.getElem?_eq_some_iff.mp hc1).1
  generalize hcl : arrV (eA E 0) (qL h a).length (fun j => va_rf (rdc ((rcp (qL h a0) (qL h a) sp.toNatClampNeg dp.toNatClampNeg n.toNatClampNeg).getD j 0))) = cell1 at X' step
  have hheap : ((T.setVm vm').setCell a cell1).heap = H.setIfInBounds a cell1 := by rw [← hT]; rfl
  have oq : ∀ q : Nat, q ≠ a → (H.setIfInBounds a cell1)[q]? = H[q]? := fun q hq => by simp [Array.getElem?_setIfInBounds, Ne.symm hq]
  obtain ⟨t, a1, b9⟩ := k ls _ _ k9 n9 h1 (h2.set19 (H1 := H.setIfInBounds a cell1) hk (by simp) oq (by rw [rcp_len, hcl]; simp [Array.getElem?_setIfInBounds, hl])) ⟨by simp; exact h3.1, fun q g1 g2 => by
      rw [oq q (fun e => g2 (by rw [e]; exact b2))]
      exact h3.2.1 q g1 g2, fun q hq => by
      rcases List.mem_append.mp hq with z | z
      · exact h3.2.2 q z
      · obtain ⟨y, -, hy⟩ := List.mem_map.mp z
        rw [← hy]
        exact b2⟩ h4 h5 _ hheap X'
  exact ⟨t, step t a1, b9⟩
theorem V_ldcM (X : CX E Γ own cc nL) {index : Nat} (hw : Cond.classLink own index "[Ljava/lang/Object;" ∈ WS) (d : decode cc pc = .ok (.ldc index, 2)) {mi : Nat} (hM : va_Mi "[Ljava/lang/Object;" mi (gs Γ)) (k : V E Γ b h (pc + 2) lv (.ref mi :: st)) : V E Γ b h pc lv st :=
  fun ls H locs k9 n9 h1 h2 h3 h4 h5 => va_ldcM X.1 X.2.1 X.ow (X.ts _ hw) hM d (k ls H locs k9 n9 h1 h2 h3 h4 h5)
/-- a list opened, a raw list closed -/
theorem V_open (X : CX E Γ own cc nL) {a : Nat} (hk : qK h a = 11) (k : ∀ (e : Nat) (m : Int32), (qC h a = 0 → e = eZ E ∧ qL h a = []) → (0 < qC h a → qK h e = 0 ∧ e ≠ a ∧ (qL h a).length ≤ qC h a ∧ (10 ≤ qC h a ∧ qC h a < 40000)) → V E Γ b (rawL h a e m) pc lv st) : V E Γ b h pc lv st := by
  intro ls H locs k9 n9 h1 h2 h3 h4 h5
  obtain ⟨e, m, z1, z2, z3⟩ := h2.open1 hk
  exact k e m z2 z3 ls H locs k9 n9 h1 z1 h3 h4 h5
theorem V_close {h1 : AH} {a e c : Nat} {m : Int32} {xs : List Nat} (hk : qK h a = 18) (hm : qF h 1000 a = .int m) (he : qF h 1001 a = .ref e) (hn : qF h 1002 a = .int (nI xs.length))
    (hc : (c = 0 ∧ e = eZ E ∧ xs = []) ∨ (0 < c ∧ (10 ≤ c ∧ c < 40000) ∧ xs.length ≤ c ∧ qK h e = 19 ∧ qL h e = enc xs c))
    (eK : ∀ b, qK h1 b = if b = a then 11 else if b = e ∧ 0 < c then 0 else qK h b) (eF : ∀ f b, b ≠ a → qF h1 f b = qF h f b) (eL : ∀ b, qL h1 b = if b = a then xs else qL h b) (eC : ∀ b, qC h1 b = if b = a then c else qC h b) (eI : qI h1 = qI h) (k : V E Γ b h1 pc lv st) : V E Γ b h pc lv st :=
  fun ls H locs k9 n9 g1 g2 g3 g4 g5 => k ls H locs k9 n9 g1 (g2.close1 hk hm he hn hc eK eF eL eC eI) g3 g4 g5
theorem V_congr {h1 : AH} (eK : qK h1 = qK h) (eF : ∀ f a, qK h a ≠ 11 → qF h1 f a = qF h f a) (eL : ∀ a, qK h a = 11 → qL h1 a = qL h a ∧ qC h1 a = qC h a) (eR : ∀ a, qK h a = 19 → qL h1 a = qL h a) (eI : ∀ a, qK h a ≠ 0 → qI h1 a = qI h a) (k : V E Γ b h1 pc lv st) : V E Γ b h pc lv st :=
  fun ls H locs k9 n9 g1 g2 g3 g4 g5 => k ls H locs k9 n9 g1 (g2.congr eK eF eL eR eI) g3 g4 g5
/-- a raw row forgotten -/
theorem V_drop {a : Nat} (hk : qK h a ≠ 11) (k : V E Γ b (sK h a 0) pc lv st) : V E Γ b h pc lv st := by
  intro ls H locs k9 n9 g1 g2 g3 g4 g5
  refine k ls H locs k9 n9 g1 ?_ g3 g4 g5
  obtain ⟨bk, mcn, p1, p2, p3⟩ := g2
  have key : ∀ x, qK (sK h a 0) x ≠ 0 → x ≠ a ∧ qK (sK h a 0) x = qK h x := by
    intro x hx
    rw [qK_sK] at hx ⊢
    split
    · next e => rw [if_pos e] at hx; exact absurd rfl hx
    · next e => exact ⟨e, rfl⟩
  refine ⟨bk, mcn, fun x hx => ?_, fun x hx => ?_, fun x y hx hy h0 h9 hxy => p3 x y (by rw [← (key x (by omega)).2]; exact hx) (by rw [← (key y (by omega)).2]; exact hy) h0 h9 hxy⟩
  · obtain ⟨e1, e2⟩ := key x hx
    rw [e2] at hx
    obtain ⟨b1, b2, b3⟩ := p1 x hx
    exact ⟨b1, b2, b3.kept rfl e2 (fun _ => rfl) rfl rfl rfl rfl⟩
  · obtain ⟨e1, e2⟩ := key x (by omega)
    rw [e2] at hx
    rcases p2 x hx with z | ⟨z1, z2, z3, z4, z5, z6⟩
    · exact Or.inl z
    · exact Or.inr ⟨z1, z2, z3, z4, by rw [qK_sK]; split <;> first | rfl | exact z5, z6⟩
end VRAW
