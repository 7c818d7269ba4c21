/-! ENDS AS THEY ARE -/
/-- an end: text, sent, waiting, kept, cursor, mark, revision -/
abbrev EQ : Type := List Nat × List SO × List SO × List KO × Nat × Nat × Nat
def wO (dm : Nat → Prop) (o : SO) : Prop := o.1 ≤ 2 ∧ o.2.1 < 2 ^ 28 ∧ o.2.2.2 ≤ 1 ∧ dm o.2.2.1
def wK (dm : Nat → Prop) (k : KO) : Prop := k.1 ≤ 1 ∧ k.2.2 < 2 ^ 28 ∧ dm k.2.1
def WE (dm : Nat → Prop) (x : EQ) : Prop := (x.1.length ≤ 200 ∧ ∀ y ∈ x.1, dm y) ∧ (x.2.1.length ≤ 200 ∧ ∀ o ∈ x.2.1, wO dm o) ∧ (x.2.2.1.length ≤ 200 ∧ ∀ o ∈ x.2.2.1, wO dm o) ∧ (x.2.2.2.1.length ≤ 200 ∧ ∀ k ∈ x.2.2.2.1, wK dm k) ∧ x.2.2.2.2.1 < 2 ^ 28 ∧ x.2.2.2.2.2.1 < 2 ^ 28 ∧ x.2.2.2.2.2.2 < 2 ^ 28
/-- operations in a list of end e -/
def OL (la : Nat → Nat) (h : AH) (v : Value) (l : Nat) (R : List Nat) (W : List SO) : Prop := qL h l = R ∧ OPs la h R W ∧ (∀ r ∈ R, own h r = v) ∧ qC h l ≤ 301
def ER (la : Nat → Nat) (h : AH) (e : Nat) (g : Nat → Nat) (x : EQ) : Prop := ES h e g ∧ (∃ c, TX la h (g 1) (g 7) x.1 c ∧ c ≤ 301) ∧ (∃ R2 R3, OL la h (te e) (g 2) R2 x.2.1 ∧ OL la h (te e) (g 3) R3 x.2.2.1 ∧ (R2 ++ R3).Nodup) ∧ (∃ R, qL h (g 6) = R ∧ KPs la h R x.2.2.2.1 ∧ R.Nodup ∧ (∀ r ∈ R, own h r = te e) ∧ qC h (g 6) ≤ 301) ∧ qF h 207 (g 0) = .int (nI x.2.2.2.2.1) ∧ qF h 208 (g 0) = .int (nI x.2.2.2.2.2.1) ∧ qF h 209 (g 0) = .int (nI x.2.2.2.2.2.2)
theorem OL.fr {la : Nat → Nat} {h h' : AH} {v : Value} {l : Nat} {R : List Nat} {W : List SO} {S : Nat → Prop} (z : OL la h v l R W) (F : Fr S h h') (hl : qK h l ≠ 0) (hs : ¬ S l) (ht : ∀ r ∈ R, ¬ S r) : OL la h' v l R W := by
  obtain ⟨z1, z2, z3, z4⟩ := z
  exact ⟨(F.L hl hs).trans z1, z2.fr F ht, fun r hr => F.O (by have := z2.kind hr; omega) (z3 r hr), by rw [F.C hl hs]; exact z4⟩
theorem ES.o {h : AH} {e : Nat} {g : Nat → Nat} (z : ES h e g) (i : Nat) (hi : i ≤ 7 := by decide) : own h (g i) = te e := z.2.2.2.2.2.2 i hi
theorem ES.k0 {h : AH} {e : Nat} {g : Nat → Nat} (z : ES h e g) : qK h (g 0) ≠ 0 := by have := z.1; omega
theorem ES.k {h : AH} {e : Nat} {g : Nat → Nat} (z : ES h e g) (i : Nat) (hi : 2 ≤ i := by decide) (hi7 : i ≤ 7 := by decide) : qK h (g i) ≠ 0 := by have := z.l i hi hi7; omega
theorem ER.fr {la : Nat → Nat} {h h' : AH} {e : Nat} {g : Nat → Nat} {x : EQ} {S : Nat → Prop} (z : ER la h e g x) (F : Fr S h h') (hs : ∀ a, own h a = te e → ¬ S a) : ER la h' e g x := by
  obtain ⟨z1, ⟨c, z2, z3⟩, ⟨R2, R3, z4, z5, z6⟩, ⟨R, z7, z8, z9, z10, z11⟩, z12, z13, z14⟩ := z
  exact ⟨z1.fr F (hs _ (z1.o 0)), ⟨c, z2.fr F (hs _ (z1.o 1)) (hs _ (z1.o 7)), z3⟩, ⟨R2, R3, z4.fr F (z1.k 2) (hs _ (z1.o 2)) (fun r hr => hs _ (z4.2.2.1 r hr)), z5.fr F (z1.k 3) (hs _ (z1.o 3)) (fun r hr => hs _ (z5.2.2.1 r hr)), z6⟩,
    ⟨R, (F.L (z1.k 6) (hs _ (z1.o 6))).trans z7, z8.fr F (fun r hr => hs _ (z10 r hr)), z9, fun r hr => F.O (by have := z8.kind hr; omega) (z10 r hr), by rw [F.C (z1.k 6) (hs _ (z1.o 6))]; exact z11⟩, F.F z1.k0 (hs _ (z1.o 0)) z12, F.F z1.k0 (hs _ (z1.o 0)) z13, F.F z1.k0 (hs _ (z1.o 0)) z14⟩
theorem KPs.sF {la : Nat → Nat} {h : AH} {R : List Nat} {K : List KO} {a f : Nat} {v : Value} (z : KPs la h R K) (ha : qK h a ≠ 4) : KPs la (sF h f a v) R K := ⟨z.1, fun j r o x y => by
  have w := z.2 j r o x y
  have hne : r ≠ a := fun u => ha (by rw [← u]; exact w.1)
  exact ⟨w.1, by rw [qF_sF, if_neg (fun y => hne y.2)]; exact w.2.1, by rw [qF_sF, if_neg (fun y => hne y.2)]; exact w.2.2.1, by rw [qF_sF, if_neg (fun y => hne y.2)]; exact w.2.2.2⟩⟩
theorem OPs.sF {la : Nat → Nat} {h : AH} {R : List Nat} {K : List SO} {a f : Nat} {v : Value} (z : OPs la h R K) (ha : qK h a ≠ 7) : OPs la (sF h f a v) R K := ⟨z.1, fun j r o x y => by
  have w := z.2 j r o x y
  have hne : r ≠ a := fun u => ha (by rw [← u]; exact w.1)
  exact ⟨w.1, by rw [qF_sF, if_neg (fun y => hne y.2)]; exact w.2.1, by rw [qF_sF, if_neg (fun y => hne y.2)]; exact w.2.2.1, by rw [qF_sF, if_neg (fun y => hne y.2)]; exact w.2.2.2.1, by rw [qF_sF, if_neg (fun y => hne y.2)]; exact w.2.2.2.2⟩⟩
theorem OL.sF {la : Nat → Nat} {h : AH} {v w : Value} {l a f : Nat} {R : List Nat} {W : List SO} (z : OL la h v l R W) (hf : f < 9999) (ha : qK h a ≠ 7) : OL la (sF h f a w) v l R W := ⟨z.1, z.2.1.sF ha, fun r hr => by unfold own; rw [qF_sF, if_neg (fun y => by omega)]; exact z.2.2.1 r hr, z.2.2.2⟩
theorem TX.sF {la : Nat → Nat} {h : AH} {t tl c a f : Nat} {v : Value} {xs : List Nat} (z : TX la h t tl xs c) (ha : qK h a ≠ 8) : TX la (sF h f a v) t tl xs c := ⟨z.1, by rw [qF_sF, if_neg (fun y => ha (by rw [← y.2]; exact z.1))]; exact z.2.1, z.2.2⟩
/-- a field of the end's object is set -/
theorem ER.cu {la : Nat → Nat} {h : AH} {e : Nat} {g : Nat → Nat} {xs : List Nat} {S W : List SO} {K : List KO} {cu mk rv : Nat} (z : ER la h e g (xs, S, W, K, cu, mk, rv)) (u : Nat) : ER la (sF h 207 (g 0) (.int (nI u))) e g (xs, S, W, K, u, mk, rv) := by
  obtain ⟨z1, ⟨c, z2, z3⟩, ⟨R2, R3, z4, z5, z6⟩, ⟨R, z7, z8, z9, z10, z11⟩, z12, z13, z14⟩ := z
  have k := z1.1
  exact ⟨z1.sF (by decide), ⟨c, z2.sF (by omega), z3⟩, ⟨R2, R3, z4.sF (by decide) (by omega), z5.sF (by decide) (by omega), z6⟩, ⟨R, z7, z8.sF (by omega), z9, fun r hr => by unfold own; rw [qF_sF, if_neg (fun y => by omega)]; exact z10 r hr, z11⟩, by rw [qF_sF, if_pos ⟨rfl, rfl⟩], by rw [qF_sF, if_neg (fun y => by omega)]; exact z13, by rw [qF_sF, if_neg (fun y => by omega)]; exact z14⟩
theorem ER.mk {la : Nat → Nat} {h : AH} {e : Nat} {g : Nat → Nat} {xs : List Nat} {S W : List SO} {K : List KO} {cu mk rv : Nat} (z : ER la h e g (xs, S, W, K, cu, mk, rv)) (u : Nat) : ER la (sF h 208 (g 0) (.int (nI u))) e g (xs, S, W, K, cu, u, rv) := by
  obtain ⟨z1, ⟨c, z2, z3⟩, ⟨R2, R3, z4, z5, z6⟩, ⟨R, z7, z8, z9, z10, z11⟩, z12, z13, z14⟩ := z
  have k := z1.1
  exact ⟨z1.sF (by decide), ⟨c, z2.sF (by omega), z3⟩, ⟨R2, R3, z4.sF (by decide) (by omega), z5.sF (by decide) (by omega), z6⟩, ⟨R, z7, z8.sF (by omega), z9, fun r hr => by unfold own; rw [qF_sF, if_neg (fun y => by omega)]; exact z10 r hr, z11⟩, by rw [qF_sF, if_neg (fun y => by omega)]; exact z12, by rw [qF_sF, if_pos ⟨rfl, rfl⟩], by rw [qF_sF, if_neg (fun y => by omega)]; exact z14⟩
theorem ER.rv {la : Nat → Nat} {h : AH} {e : Nat} {g : Nat → Nat} {xs : List Nat} {S W : List SO} {K : List KO} {cu mk rv : Nat} (z : ER la h e g (xs, S, W, K, cu, mk, rv)) (u : Nat) : ER la (sF h 209 (g 0) (.int (nI u))) e g (xs, S, W, K, cu, mk, u) := by
  obtain ⟨z1, ⟨c, z2, z3⟩, ⟨R2, R3, z4, z5, z6⟩, ⟨R, z7, z8, z9, z10, z11⟩, z12, z13, z14⟩ := z
  have k := z1.1
  exact ⟨z1.sF (by decide), ⟨c, z2.sF (by omega), z3⟩, ⟨R2, R3, z4.sF (by decide) (by omega), z5.sF (by decide) (by omega), z6⟩, ⟨R, z7, z8.sF (by omega), z9, fun r hr => by unfold own; rw [qF_sF, if_neg (fun y => by omega)]; exact z10 r hr, z11⟩, by rw [qF_sF, if_neg (fun y => by omega)]; exact z12, by rw [qF_sF, if_neg (fun y => by omega)]; exact z13, by rw [qF_sF, if_pos ⟨rfl, rfl⟩]⟩
/-- an operation of the other end comes -/
def fol (x : EQ) (b : SO) : EQ :=
  let b2 := crp x.2.2.1 (crp x.2.1 b)
  if b2.1 = 0 then (x.1, crs x.2.1 b, crs x.2.2.1 (crp x.2.1 b), x.2.2.2) else (apO b2 x.1, crs x.2.1 b, crs x.2.2.1 (crp x.2.1 b), x.2.2.2.1.map (mvk b2), mvp b2 x.2.2.2.2.1, bhd b2, x.2.2.2.2.2.2)
/-- up and down are kept -/
def UD (h h1 : AH) (g : Nat → Nat) : Prop := qL h1 (g 4) = qL h (g 4) ∧ qC h1 (g 4) = qC h (g 4) ∧ qL h1 (g 5) = qL h (g 5) ∧ qC h1 (g 5) = qC h (g 5)
theorem UD.trans {h h1 h2 : AH} {g : Nat → Nat} (z : UD h h1 g) (w : UD h1 h2 g) : UD h h2 g := ⟨w.1.trans z.1, w.2.1.trans z.2.1, w.2.2.1.trans z.2.2.1, w.2.2.2.trans z.2.2.2⟩
theorem Fr.UD {S : Nat → Prop} {h h1 : AH} {e : Nat} {g : Nat → Nat} (F : Fr S h h1) (z : ES h e g) (a : ¬ S (g 4)) (b : ¬ S (g 5)) : UD h h1 g := ⟨F.L (z.k 4) a, F.C (z.k 4) a, F.L (z.k 5) b, F.C (z.k 5) b⟩
theorem c_follow {E : EV} {la : Nat → Nat} {dm : Nat → Prop} {h : AH} {e p : Nat} {g : Nat → Nat} {x : EQ} {b : SO} (z : ER la h e g x) (hw : WE dm x) (hd : ∀ y, dm y → qK h (la y) = 5) (hp : OP la h p b) (po : own h p = te e) (pn : ∀ i, 2 ≤ i → i ≤ 3 → p ∉ qL h (g i)) (wb : wO dm b) : Ct E yX2_follow cX2_follow 2 none 10 101 [.ref (g 0), .ref p] h (fun v h1 => v = none ∧ ER la h1 e g (fol x b) ∧ UD h h1 g ∧ Fr (fun a => own h a = te e) h h1) noX := by
  refine Ct_of RX2 (by decide +kernel) rfl (Nat.le_of_ble_eq_true rfl) (fun Γ X nt Q hin => ?_)
  obtain ⟨xs, S, W, K, cu, mk, rv⟩ := x
  obtain ⟨⟨wx, wx2⟩, ⟨wS, wS2⟩, ⟨wW, wW2⟩, ⟨wKl, wK2⟩, wc, wm, wr⟩ := hw
  obtain ⟨wb1, wb2, wb3, wb4⟩ := wb
  have hE := z.1
  obtain ⟨c, hx, hc⟩ := z.2.1
  obtain ⟨R2, R3, o2, o3, nd⟩ := z.2.2.1
  obtain ⟨RK, q1, q2, q3, q4, q5⟩ := z.2.2.2.1
  obtain ⟨f7, f8, f9⟩ := z.2.2.2.2
  dsimp only at wx wx2 wS wS2 wW wW2 wKl wK2 wc wm wr hx o2 o3 q2 f7 f8 f9
  have p2 : p ∉ R2 := by rw [← o2.1]; exact pn 2 (by decide) (by decide)
  have p3 : p ∉ R3 := by rw [← o3.1]; exact pn 3 (by decide) (by decide)
  have nd2 := (List.nodup_append.mp nd).1
  have nd3 := (List.nodup_append.mp nd).2.1
  have nd23 := (List.nodup_append.mp nd).2.2
  have kO : ∀ a, (a ∈ R2 ∨ a = p) → qK h a = 7 := fun a y => y.elim (fun y => o2.2.1.kind y) (fun y => by rw [y]; exact hp.1)
  have kO3 : ∀ a, (a ∈ R3 ∨ a = p) → qK h a = 7 := fun a y => y.elim (fun y => o3.2.1.kind y) (fun y => by rw [y]; exact hp.1)
  have kl := fun i a b => hE.l i a b
  obtain ⟨b11, b12, b13⟩ := crp_bnd S b wb1
  obtain ⟨b21, b22, b23⟩ := crp_bnd W (crp S b) b11
  refine V_aload_n (pc := 0) X 0 dX2_follow_0 rfl ?_
  refine V_get (pc := 1) X fl_X2_19 dX2_follow_1 hE.1 (hE.f 2) ?_
  refine V_aload_n (pc := 4) X 1 dX2_follow_4 rfl ?_
  refine V_callS (pc := 5) X _ (c_trRow (hE.l 2) o2.1 o2.2.1 hp nd2 p2 (fun o ho => by have := wS2 o ho; unfold wO at this; omega) (by omega) (by omega)) cw_X2_115 (Q.room (by decide) (by decide)) rfl (Nat.le_of_ble_eq_true rfl) rfl (by omega) dX2_follow_5 (fun _ _ z => z.elim) ?_
  rintro v5 h5 ⟨rfl, t1, t2, t3⟩
  simp only [Option.toList_none, List.nil_append]
  have hE1 := hE.fr t3 (fun y => by have := kO _ y; have := hE.1; omega)
  have n3 : ¬ (g 3 ∈ R2 ∨ g 3 = p) := fun y => by have := kO _ y; have := hE.l 3; omega
  have L3 : qL h5 (g 3) = R3 := (t3.L (hE.k 3) n3).trans o3.1
  have O3 : OPs la h5 R3 W := o3.2.1.fr t3 (fun r hr y => y.elim (fun y => nd23 r y r hr rfl) (fun y => p3 (by rw [← y]; exact hr)))
  refine V_aload_n (pc := 8) X 0 dX2_follow_8 rfl ?_
  refine V_get (pc := 9) X fl_X2_23 dX2_follow_9 hE1.1 (hE1.f 3) ?_
  refine V_aload_n (pc := 12) X 1 dX2_follow_12 rfl ?_
  refine V_callS (pc := 13) X _ (c_trRow (hE1.l 3) L3 O3 t2 nd3 p3 (fun o ho => by have := wW2 o ho; unfold wO at this; omega) (by rw [b13]; omega) (by omega)) cw_X2_115 (Q.room (by decide) (by decide)) rfl (Nat.le_of_ble_eq_true rfl) rfl (by omega) dX2_follow_13 (fun _ _ z => z.elim) ?_
  rintro v13 h13 ⟨rfl, s1, s2, s3⟩
  simp only [Option.toList_none, List.nil_append]
  have F1 : Fr (fun a => a ∈ R2 ∨ a ∈ R3 ∨ a = p) h h13 := t3.trans s3 (fun a _ y => y.elim (fun y => Or.inl y) (fun y => Or.inr (Or.inr y))) (fun a _ y => y.elim (fun y => Or.inr (Or.inl y)) (fun y => Or.inr (Or.inr y)))
  have kF : ∀ a, (a ∈ R2 ∨ a ∈ R3 ∨ a = p) → qK h a = 7 ∧ own h a = te e := fun a y => y.elim (fun y => ⟨o2.2.1.kind y, o2.2.2.1 a y⟩) (fun y => y.elim (fun y => ⟨o3.2.1.kind y, o3.2.2.1 a y⟩) (fun y => by rw [y]; exact ⟨hp.1, po⟩))
  have n7 : ∀ a, qK h a ≠ 7 → ¬ (a ∈ R2 ∨ a ∈ R3 ∨ a = p) := fun a k y => k (kF a y).1
  have hE2 := hE.fr F1 (n7 _ (by rw [hE.1]; decide))
  have hx2 := hx.fr F1 (n7 _ (by rw [hE.2.2.2.1]; decide)) (n7 _ (by rw [hE.l 7]; decide))
  have S2 : OPs la h13 R2 (crs S b) := t1.fr s3 (fun r hr y => y.elim (fun y => nd23 r hr r y rfl) (fun y => p2 (by rw [← y]; exact hr)))
  have F1t : Fr (fun a => own h a = te e) h h13 := F1.mono (fun a _ y => (kF a y).2)
  have l2 : OL la h13 (te e) (g 2) R2 (crs S b) := ⟨(F1.L (hE.k 2) (n7 _ (by rw [hE.l 2]; decide))).trans o2.1, S2, fun r hr => F1.O (by rw [o2.2.1.kind hr]; decide) (o2.2.2.1 r hr), by rw [F1.C (hE.k 2) (n7 _ (by rw [hE.l 2]; decide))]; exact o2.2.2.2⟩
  have l3 : OL la h13 (te e) (g 3) R3 (crs W (crp S b)) := ⟨(F1.L (hE.k 3) (n7 _ (by rw [hE.l 3]; decide))).trans o3.1, s1, fun r hr => F1.O (by rw [o3.2.1.kind hr]; decide) (o3.2.2.1 r hr), by rw [F1.C (hE.k 3) (n7 _ (by rw [hE.l 3]; decide))]; exact o3.2.2.2⟩
  have K2 := q2.fr F1 (fun r hr => n7 r (by rw [q2.kind hr]; decide))
  have L6 := (F1.L (hE.k 6) (n7 _ (by rw [hE.l 6]; decide))).trans q1
  have C6 : qC h13 (g 6) ≤ 301 := by rw [F1.C (hE.k 6) (n7 _ (by rw [hE.l 6]; decide))]; exact q5
  have O6 : ∀ r ∈ RK, own h13 r = te e := fun r hr => F1.O (by rw [q2.kind hr]; decide) (q4 r hr)
  have g7 := F1.F hE.k0 (n7 _ (by rw [hE.1]; decide)) f7
  have g8 := F1.F hE.k0 (n7 _ (by rw [hE.1]; decide)) f8
  have g9 := F1.F hE.k0 (n7 _ (by rw [hE.1]; decide)) f9
  have hud : UD h h13 g := F1.UD hE (n7 _ (by rw [hE.l 4]; decide)) (n7 _ (by rw [hE.l 5]; decide))
  generalize hb2 : crp W (crp S b) = b2 at s2 b21 b22 b23
  refine V_aload_n (pc := 16) X 1 dX2_follow_16 rfl ?_
  refine V_get (pc := 17) X fl_X2_119 dX2_follow_17 s2.1 s2.2.2.2.1 ?_
  refine V_bipush (pc := 20) (v := 110) X dX2_follow_20 (by decide) ?_
  refine V_icmp_eq (pc := 22) X 50 dX2_follow_22 (by decide) (fun c22 => ?_) (fun c22 => ?_)
  · have e0 : b2.1 = 0 := (kc_0 b21).mp c22
    refine V.less (b' := 0) (Nat.zero_le _) ?_
    refine V_vret (pc := 50) X Q rfl dX2_follow_50 ?_
    first
    | (refine ⟨rfl, ?_, hud, F1t⟩
       unfold fol
       dsimp only
       rw [hb2, if_pos e0]
       exact ⟨hE2, ⟨c, hx2, hc⟩, ⟨R2, R3, l2, l3, nd⟩, ⟨RK, L6, K2, q3, O6, C6⟩, g7, g8, g9⟩)
    | (refine ⟨rfl, ?_, ?_, F2.trans ((Fr_sF (S := fun a => a = g 0) rfl).seq (Fr_sF rfl)) (fun _ _ y => y) (fun a _ y => by rw [y]; exact hE.o 0)⟩
       · unfold fol
         dsimp only
         rw [hb2, if_neg e0]
         exact (hER.cu (mvp b2 cu)).mk (bhd b2)
       · exact hud.trans (u3.UD hE2 (nk 4 (by decide) (by decide)) (nk 5 (by decide) (by decide))))
  · have e0 : b2.1 ≠ 0 := fun y => c22 ((kc_0 b21).mpr y)
    have hbl : b2.2.2.1 = b.2.2.1 := by rw [b23, b13]
    refine V_aload_n (pc := 25) X 0 dX2_follow_25 rfl ?_
    refine V_aload_n (pc := 26) X 1 dX2_follow_26 rfl ?_
    refine V_callV (pc := 27) X clk2 (by decide) hE2.1 _ (c_ecarry hE2 hx2 L6 K2 q3 s2 (fun _ => by rw [hbl]; exact F1.K (hd _ wb4) (by decide)) (fun y hy => F1.K (hd y (wx2 y hy)) (by decide)) b21 e0 (by omega) wx hc (fun k hk => by have := wK2 k hk; unfold wK at this; omega) (by rw [q2.1]; omega)) cw_X2_48 (Q.room (by decide) (by decide)) rfl (Nat.le_of_ble_eq_true rfl) rfl (by omega) dX2_follow_27 (fun _ _ z => z.elim) ?_
    rintro v27 h27 ⟨rfl, u1, u2, u3⟩
    simp only [Option.toList_none, List.nil_append]
    refine V.less (b' := 0) (Nat.zero_le _) ?_
    have n0 : ¬ (g 0 = g 7 ∨ g 0 ∈ RK) := fun y => y.elim (hE.n0 (by decide) (by decide)) (fun y => by have := q2.kind y; have := hE.1; omega)
    have nk : ∀ i, 2 ≤ i → i ≤ 6 → ¬ (g i = g 7 ∨ g i ∈ RK) := fun i a b y => y.elim (hE.ne a (by omega) (by decide) (by decide) (by omega)) (fun y => by have := q2.kind y; have := hE.l i a (by omega); omega)
    have no : ∀ r, qK h13 r = 7 → ¬ (r = g 7 ∨ r ∈ RK) := fun r k y => y.elim (fun y => by have := hE2.l 7; rw [y] at k; omega) (fun y => by have := K2.kind y; omega)
    have hE3 := hE2.fr u3 n0
    have s3' := s2.fr u3 (no _ s2.1)
    have l2' := l2.fr u3 (hE2.k 2) (nk 2 (by decide) (by decide)) (fun r hr => no r (l2.2.1.kind hr))
    have l3' := l3.fr u3 (hE2.k 3) (nk 3 (by decide) (by decide)) (fun r hr => no r (l3.2.1.kind hr))
    have j7 := u3.F hE2.k0 n0 g7
    have j8 := u3.F hE2.k0 n0 g8
    have j9 := u3.F hE2.k0 n0 g9
    have u3t : Fr (fun a => own h13 a = te e) h13 h27 := u3.mono (fun a _ y => y.elim (fun y => by rw [y]; exact hE2.o 7) (fun y => O6 a y))
    have F2 : Fr (fun a => own h a = te e) h h27 := F1t.trans u3t (fun _ _ y => y) (fun a k y => by rw [← F1.O k rfl]; exact y)
    have hER : ER la h27 e g (apO b2 xs, crs S b, crs W (crp S b), K.map (mvk b2), cu, mk, rv) := ⟨hE3, ⟨_, u1, Nat.le_trans (caO_max wx) (by omega)⟩, ⟨R2, R3, l2', l3', nd⟩, ⟨RK, (u3.L (hE2.k 6) (nk 6 (by decide) (by decide))).trans L6, u2, q3, fun r hr => u3.O (by rw [K2.kind hr]; decide) (O6 r hr), by rw [u3.C (hE2.k 6) (nk 6 (by decide) (by decide))]; exact C6⟩, j7, j8, j9⟩
    refine V_aload_n (pc := 30) X 0 dX2_follow_30 rfl ?_
    refine V_aload_n (pc := 31) X 1 dX2_follow_31 rfl ?_
    refine V_aload_n (pc := 32) X 0 dX2_follow_32 rfl ?_
    refine V_get (pc := 33) X fl_X2_35 dX2_follow_33 hE3.1 j7 ?_
    refine V_callV (pc := 36) X clk6 (by decide) s3'.1 _ (c_move (k := b2.1) (p := b2.2.1) (x := b2.2.2.1) (w := b2.2.2.2) s3' b21 e0 (by omega) (by omega)) cw_X2_58 (Q.room (by decide) (by decide)) rfl (Nat.le_of_ble_eq_true rfl) rfl (by omega) dX2_follow_36 (fun _ _ z => z.elim) ?_
    rintro v36 h36 ⟨rfl, e36⟩
    rw [e36]
    simp only [Option.toList_some, List.cons_append, List.nil_append]
    refine V_put (pc := 39) X fl_X2_35 dX2_follow_39 hE3.1 ⟨rfl, rfl⟩ ?_
    have s4 := s3'.fr (Fr_sF (S := fun a => a = g 0) (f := 207) (v := .int (nI (mvp b2 cu))) rfl) (fun y => by have := s3'.1; have := hE3.1; rw [← y] at this; omega)
    refine V_aload_n (pc := 42) X 0 dX2_follow_42 rfl ?_
    refine V_aload_n (pc := 43) X 1 dX2_follow_43 rfl ?_
    refine V_callV (pc := 44) X clk6 (by decide) s4.1 _ (c_behind (k := b2.1) (p := b2.2.1) (x := b2.2.2.1) (w := b2.2.2.2) s4 b21 e0 (by omega)) cw_X2_52 (Q.room (by decide) (by decide)) rfl (Nat.le_of_ble_eq_true rfl) rfl (by omega) dX2_follow_44 (fun _ _ z => z.elim) ?_
    rintro v44 h44 ⟨rfl, e44⟩
    rw [e44]
    simp only [Option.toList_some, List.cons_append, List.nil_append]
    refine V_put (pc := 47) X fl_X2_39 dX2_follow_47 hE3.1 ⟨rfl, rfl⟩ ?_
    refine V_vret (pc := 50) X Q rfl dX2_follow_50 ?_
    first
    | (refine ⟨rfl, ?_, hud, F1t⟩
       unfold fol
       dsimp only
       rw [hb2, if_pos e0]
       exact ⟨hE2, ⟨c, hx2, hc⟩, ⟨R2, R3, l2, l3, nd⟩, ⟨RK, L6, K2, q3, O6, C6⟩, g7, g8, g9⟩)
    | (refine ⟨rfl, ?_, ?_, F2.trans ((Fr_sF (S := fun a => a = g 0) rfl).seq (Fr_sF rfl)) (fun _ _ y => y) (fun a _ y => by rw [y]; exact hE.o 0)⟩
       · unfold fol
         dsimp only
         rw [hb2, if_neg e0]
         exact (hER.cu (mvp b2 cu)).mk (bhd b2)
       · exact hud.trans (u3.UD hE2 (nk 4 (by decide) (by decide)) (nk 5 (by decide) (by decide))))
