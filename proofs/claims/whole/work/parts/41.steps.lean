/-! STEPS OF THE STATE -/
def zsE (s : SQ) (e : Nat) (x : EQ) : SQ := (zu s.1 e x, s.2)
def zsU (s : SQ) (e : Nat) (u : List MG) : SQ := (s.1, zu s.2.1 e u, s.2.2)
def zsM (s : SQ) (n : Nat) : SQ := (s.1, s.2.1, s.2.2.1, s.2.2.2.1, n, s.2.2.2.2.2)
def zsL (s : SQ) (c e : Nat) : SQ := (s.1, s.2.1, s.2.2.1, s.2.2.2.1, s.2.2.2.2.1, zu s.2.2.2.2.2.1 (zM s) (c, e), zM s :: s.2.2.2.2.2.2)
def eP (x : EQ) (K : List KO) : EQ := (x.1, x.2.1, x.2.2.1, K, x.2.2.2.2)
def sdm (s : SQ) (e : Nat) (O : List SO) : List MG := if O = [] then zU s e else zU s e ++ [(e, eR (zE s e), O)]
def doM (s : SQ) (e : Nat) (o : SO) : SQ := zsM (zsU (zsE s e (mak (zE s e) o)) e (sdm s e (if eS (zE s e) = [] then [o] else []))) (zM s + 1)
def addK (s : SQ) (e : Nat) (k : KO) : SQ := zsE s e (eP (zE s e) (eK (zE s e) ++ [k]))
def drpK (s : SQ) (e : Nat) : SQ := zsE s e (eP (zE s e) (eK (zE s e)).dropLast)
def sIns (s : SQ) (e p c : Nat) : SQ := addK (doM (zsL s c e) e (1, p, zM s, e)) e (1, zM s, p)
def sDel (s : SQ) (e p y : Nat) : SQ := addK (doM s e (2, p, y, e)) e (0, y, p)
def sUnI (s : SQ) (e i y : Nat) : SQ := doM (drpK s e) e (2, i, y, e)
def sUnD (s : SQ) (e p y : Nat) : SQ := doM (zsL (drpK s e) (zT s y).1 e) e (1, p, zM s, e)
theorem WE.mono {dm dm' : Nat → Prop} {x : EQ} (w : WE dm x) (i : ∀ y, dm y → dm' y) : WE dm' x := by
  obtain ⟨⟨w1, w2⟩, ⟨w3, w4⟩, ⟨w5, w6⟩, ⟨w7, w8⟩, w9⟩ := w
  exact ⟨⟨w1, fun y hy => i y (w2 y hy)⟩, ⟨w3, fun o ho => ⟨(w4 o ho).1, (w4 o ho).2.1, (w4 o ho).2.2.1, i _ (w4 o ho).2.2.2⟩⟩, ⟨w5, fun o ho => ⟨(w6 o ho).1, (w6 o ho).2.1, (w6 o ho).2.2.1, i _ (w6 o ho).2.2.2⟩⟩, ⟨w7, fun k hk => ⟨(w8 k hk).1, (w8 k hk).2.1, i _ (w8 k hk).2.2⟩⟩, w9⟩
theorem RC2.ms {la : Nat → Nat} {h : AH} {g : Nat → Nat → Nat} {gc : Nat → Nat} {E : Nat → EQ} {U : Nat → List MG} {H : List MG} (z : RC2 la h g gc E U H) {e : Nat} (he : e ≤ 1) : ∃ U0, qL h (g e 4) = U0 ∧ (∀ u ∈ U0, qK h u = 6) ∧ U0.length = (U e).length ∧ qC h (g e 4) ≤ 301 := by
  obtain ⟨Hs, Us, z1, z2, z3, z4⟩ := z
  obtain ⟨y1, y2, y3, y4, y5⟩ := z3 e he
  exact ⟨Us e, y2, fun u hu => (y1.k hu).1, y1.1, y3⟩
theorem HS.nil (la : Nat → Nat) (h : AH) : HS la h [] [] := ⟨rfl, fun j m x a => by simp at a⟩
theorem HS.app {la : Nat → Nat} {h : AH} {Hs : List Nat} {H : List MG} {m : Nat} {x : MG} (z : HS la h Hs H) (y : MS la h m x.1 x.2.1 x.2.2) : HS la h (Hs ++ [m]) (H ++ [x]) := ⟨by rw [List.length_append, List.length_append, z.1]; rfl, fun j a b ha hb => by
  have hl := z.1
  rcases Nat.lt_or_ge j Hs.length with u | u
  · rw [List.getElem?_append_left u] at ha
    rw [List.getElem?_append_left (by omega)] at hb
    exact z.2 j a b ha hb
  · rw [List.getElem?_append_right u] at ha
    rw [List.getElem?_append_right (by omega)] at hb
    have ej : j - Hs.length = 0 := by
      have := (List.getElem?_eq_some_iff.mp ha).1
      simp at this
      omega
    rw [ej] at ha
    rw [show j - H.length = 0 by omega] at hb
    simp at ha hb
    subst ha
    subst hb
    exact y⟩
/-- end e was changed -/
theorem RC.end' {h h1 : AH} {q : Nat} {G : GQ} {s : SQ} (z : RC h q G s) {e : Nat} (he : e ≤ 1) {x' : EQ} {U' : List MG} (e1 : ER G.1 h1 e (G.2.1 e) x') (F : Fr (fun a => own h a = te e) h h1)
    (hq : ∀ Hs Ue : List Nat, HS G.1 h Hs (zH s) → HS G.1 h Ue (zU s e) → Ue.Nodup → qL h (G.2.1 e 4) = Ue → qC h (G.2.1 e 4) ≤ 301 → qL h (G.2.1 e 5) = Hs.drop (eR (zE s e)) → qC h (G.2.1 e 5) ≤ 301 → ∃ Ue', HS G.1 h1 Ue' U' ∧ qL h1 (G.2.1 e 4) = Ue' ∧ qC h1 (G.2.1 e 4) ≤ 301 ∧ qL h1 (G.2.1 e 5) = Hs.drop (eR x') ∧ qC h1 (G.2.1 e 5) ≤ 301 ∧ Ue'.Nodup ∧ ∀ m ∈ Ue', (m ∈ Ue ∨ qK h m = 0)) :
    RC h1 q G (zsU (zsE s e x') e U') ∧ FC h h1 := by
  obtain ⟨z0, z1, zc, z2, z3, z4, z5⟩ := z
  have n : ∀ i, i ≠ e → ∀ a, own h a = te i → ¬ own h a = te e := fun i hi a y u => ref_ne (a := 20 + i) (b := 20 + e) (by omega) (y.symm.trans u)
  have n' : ∀ t : Nat, 22 ≤ t → ∀ a, own h a = .ref t → ¬ own h a = te e := fun t ht a y u => ref_ne (a := t) (b := 20 + e) (by omega) (y.symm.trans u)
  obtain ⟨Hs, Us, y1, y2, y3, y4, y5, y6⟩ := z2
  refine ⟨⟨z0.fr F (n 5 (by omega)), fun i hi => ?_, zc.fr F (fun i hi => n 2 (by omega) _ (zc.2.2.2.2.2.2.2 i hi)), ?_, z3.fr F (n 3 (by omega)), z4.fr F (n 4 (by omega)), z5.fr F (n' 30 (by decide))⟩, FC.of F (fun a _ y => te_oth (by omega) y)⟩
  · show ER G.1 h1 i (G.2.1 i) (zu s.1 e x' i)
    by_cases ei : i = e
    · subst ei; rw [zu_s]; exact e1
    · rw [zu_n ei]; exact (z1 i hi).fr F (n i ei)
  · obtain ⟨a1, a2, a3, a4, a5⟩ := y3 e he
    obtain ⟨Ue', b1, b2, b3, b4, b5, b6, b7⟩ := hq Hs (Us e) y2 a1 (y5 e he).1 a2 a3 a4 a5
    have msn : ∀ (m : Nat) (a : Nat), own h a = .ref (40 + m) → ¬ own h a = te e := fun m a => n' (40 + m) (Nat.le_trans (show 22 ≤ 40 by decide) (Nat.le_add_right 40 m)) a
    refine ⟨Hs, zu Us e Ue', (F.L (by have := zc.2.2.2.2.1; omega) (n 2 (by omega) _ (zc.2.2.2.2.2.2.2 2 (by decide)))).trans y1, y2.fr F (n' 35 (by decide)) (fun m _ => msn m), fun i hi => ?_, y4, fun i hi => ?_, ?_⟩
    · show HS G.1 h1 (zu Us e Ue' i) (zu s.2.1 e U' i) ∧ qL h1 (G.2.1 i 4) = zu Us e Ue' i ∧ _ ∧ qL h1 (G.2.1 i 5) = Hs.drop (eR (zu s.1 e x' i)) ∧ _
      by_cases ei : i = e
      · subst ei; rw [zu_s, zu_s, zu_s]; exact ⟨b1, b2, b3, b4, b5⟩
      · rw [zu_n ei, zu_n ei, zu_n ei]
        obtain ⟨c1, c2, c3, c4, c5⟩ := y3 i hi
        have es := (z1 i hi).1
        exact ⟨c1.fr F (n' 35 (by decide)) (fun m _ => msn m), (F.L (es.k 4) (n i ei _ (es.o 4))).trans c2, by rw [F.C (es.k 4) (n i ei _ (es.o 4))]; exact c3, (F.L (es.k 5) (n i ei _ (es.o 5))).trans c4, by rw [F.C (es.k 5) (n i ei _ (es.o 5))]; exact c5⟩
    · by_cases ei : i = e
      · subst ei; rw [zu_s]
        refine ⟨b6, fun m hm hH => ?_⟩
        rcases b7 m hm with u | u
        · exact (y5 i hi).2 m u hH
        · have := (y2.k hH).1; omega
      · rw [zu_n ei]; exact y5 i hi
    · have key : ∀ m, m ∈ Ue' → ∀ i, i ≤ 1 → i ≠ e → m ∉ Us i := fun m hm i hi ei hU => by
        rcases b7 m hm with u | u
        · rcases (show (e = 0 ∧ i = 1) ∨ (e = 1 ∧ i = 0) by omega) with ⟨rfl, rfl⟩ | ⟨rfl, rfl⟩
          · exact y6 m u hU
          · exact y6 m hU u
        · have := ((y3 i hi).1.k hU).1; omega
      intro m hm hm1
      rcases (show e = 0 ∨ e = 1 by omega) with rfl | rfl
      · rw [zu_s] at hm
        rw [zu_n (by decide)] at hm1
        exact key m hm 1 (by decide) (by decide) hm1
      · rw [zu_s] at hm1
        rw [zu_n (by decide)] at hm
        exact key m hm1 0 (by decide) (by decide) hm
/-- what may have been sent -/
theorem RC.sent {h h1 : AH} {q : Nat} {G : GQ} {s : SQ} (z : RC h q G s) {e : Nat} (he : e ≤ 1) {x' : EQ} {U0 : List Nat} {O : List SO} (e1 : ER G.1 h1 e (G.2.1 e) x') (F : Fr (fun a => own h a = te e) h h1) (hU0 : qL h (G.2.1 e 4) = U0) {rv : Nat} (sn : snt G.1 h h1 e (G.2.1 e) rv U0 O) (d5 : ∀ Hs : List Nat, qL h (G.2.1 e 5) = Hs.drop (eR (zE s e)) → qL h1 (G.2.1 e 5) = Hs.drop (eR x')) (c5 : qC h1 (G.2.1 e 5) = qC h (G.2.1 e 5)) :
    RC h1 q G (zsU (zsE s e x') e (if O = [] then zU s e else zU s e ++ [(e, rv, O)])) ∧ FC h h1 := by
  refine z.end' he e1 F (fun Hs Ue a1 a2 a3 a4 a5 a6 a7 => ?_)
  have n' : ∀ t : Nat, 22 ≤ t → ∀ a, own h a = .ref t → ¬ own h a = te e := fun t ht a y u => ref_ne (a := t) (b := 20 + e) (by omega) (y.symm.trans u)
  have msn : ∀ (m : Nat) (a : Nat), own h a = .ref (40 + m) → ¬ own h a = te e := fun m a => n' (40 + m) (Nat.le_trans (show 22 ≤ 40 by decide) (Nat.le_add_right 40 m)) a
  have hU : HS G.1 h1 Ue (zU s e) := a2.fr F (n' 35 (by decide)) (fun m _ => msn m)
  have eU : U0 = Ue := hU0.symm.trans a4
  obtain ⟨s1, s2⟩ := sn
  rcases s2 with ⟨o0, s2⟩ | ⟨o0, m, m0, m1, m2⟩
  · rw [if_pos o0]
    exact ⟨Ue, hU, by rw [s2, eU], s1, d5 Hs a6, by rw [c5]; exact a7, a3, fun m hm => Or.inl hm⟩
  · rw [if_neg o0]
    refine ⟨Ue ++ [m], hU.app m1, by rw [m2, eU], s1, d5 Hs a6, by rw [c5]; exact a7, ?_, fun a ha => ?_⟩
    · rw [List.nodup_append]
      exact ⟨a3, by simp, fun a ha b hb u => by
        simp at hb
        rw [hb] at u
        have := (a2.k ha).1
        rw [u] at this
        omega⟩
    · rcases List.mem_append.mp ha with u | u
      · exact Or.inl u
      · simp at u; rw [u]; exact Or.inr m0
/-- nothing but the end's own things -/
theorem RC.quiet {h h1 : AH} {q : Nat} {G : GQ} {s : SQ} (z : RC h q G s) {e : Nat} (he : e ≤ 1) {x' : EQ} (e1 : ER G.1 h1 e (G.2.1 e) x') (F : Fr (fun a => own h a = te e) h h1) (ud : UD h h1 (G.2.1 e)) (hr : eR x' = eR (zE s e)) : RC h1 q G (zsE s e x') ∧ FC h h1 := by
  obtain ⟨U0, u1, u2, u3, u4⟩ := z.2.2.2.1.ms he
  have := z.sent he e1 F u1 (rv := 0) (O := []) ⟨by rw [ud.2.1]; exact u4, Or.inl ⟨rfl, ud.1.trans u1⟩⟩ (fun Hs a => by rw [ud.2.2.1, a, hr]) ud.2.2.2
  rw [if_pos rfl] at this
  have e2 : zsU (zsE s e x') e (zU s e) = zsE s e x' := by
    show (zu s.1 e x', zu s.2.1 e (s.2.1 e), s.2.2) = (zu s.1 e x', s.2)
    have : zu s.2.1 e (s.2.1 e) = s.2.1 := by
      funext i
      unfold zu
      split
      · next u => rw [u]
      · rfl
    rw [this]
  rwa [e2] at this
/-- the number of operations is set -/
theorem RC.made {h : AH} {q : Nat} {G : GQ} {s : SQ} (z : RC h q G s) (n : Nat) : RC (sF h 805 q (.int (nI n))) q G (zsM s n) ∧ FC h (sF h 805 q (.int (nI n))) := by
  obtain ⟨z0, z1, zc, z2, z3, z4, z5⟩ := z
  have o5 := z0.2.2.2.2.2.2.2
  have F : Fr (fun a => a = q) h (sF h 805 q (.int (nI n))) := Fr_sF rfl
  have N : ∀ e, e ≠ 5 → ∀ a, own h a = te e → ¬ a = q := fun e he a y u => ref_ne (a := 20 + e) (b := 25) (by omega) (y.symm.trans (by rw [u]; exact o5))
  have N' : ∀ t : Nat, t ≠ 25 → ∀ a, own h a = .ref t → ¬ a = q := fun t ht a y u => ref_ne (a := t) (b := 25) (by omega) (y.symm.trans (by rw [u]; exact o5))
  refine ⟨⟨?_, z1.fr F (fun e he => N e (by omega)), zc.fr F (fun i hi => N 2 (by decide) _ (zc.2.2.2.2.2.2.2 i hi)), z2.fr zc z1 F (N 2 (by decide)) (fun e he => N e (by omega)) (N' 35 (by decide)) (fun (m : Nat) => N' (40 + m) (Nat.ne_of_gt (Nat.lt_of_lt_of_le (show 25 < 40 by decide) (Nat.le_add_right 40 m)))), z3.fr F (N 3 (by decide)), z4.fr F (N 4 (by decide)), z5.fr F (N' 30 (by decide))⟩, FC.of F (fun a _ y => by rw [y]; exact te_oth (by decide) o5)⟩
  obtain ⟨y1, y2, y3, y4, y5, y6, y7, y8⟩ := z0
  have ne : ∀ f, f ≠ 805 → qF (sF h 805 q (.int (nI n))) f q = qF h f q := fun f hf => by rw [qF_sF, if_neg (fun y => hf y.1)]
  exact ⟨y1, (ne _ (by decide)).trans y2, (ne _ (by decide)).trans y3, (ne _ (by decide)).trans y4, (ne _ (by decide)).trans y5, (ne _ (by decide)).trans y6, by rw [qF_sF, if_pos ⟨rfl, rfl⟩]; rfl, (ne _ (by decide)).trans y8⟩
theorem RC2.la {la lb : Nat → Nat} {dm : Nat → Prop} {h : AH} {g : Nat → Nat → Nat} {gc : Nat → Nat} {E : Nat → EQ} {U : Nat → List MG} {H : List MG} (z : RC2 la h g gc E U H) (wH : ∀ m ∈ H, wM dm m) (wU : ∀ e, e ≤ 1 → ∀ m ∈ U e, wM dm m) (i : ∀ y, dm y → lb y = la y) : RC2 lb h g gc E U H := by
  obtain ⟨Hs, Us, y1, y2, y3, y4⟩ := z
  exact ⟨Hs, Us, y1, y2.la wH i, fun e he => ⟨(y3 e he).1.la (wU e he) i, (y3 e he).2⟩, y4⟩
/-- a letter is made -/
theorem RC.letter {h h1 : AH} {q a : Nat} {G : GQ} {s : SQ} (z : RC h q G s) (w : WS' s) (F : Fr (fun _ => False) h h1) {c e : Nat} (ha : qK h a = 0) (hk : qK h1 a = 5) (hf : qF h1 400 a = .int (nI c)) (hg : qF h1 401 a = .int (nI e)) (ho : own h1 a = .ref 30) (hc : c < 127) (he : e ≤ 1) : RC h1 q (zu G.1 (zM s) a, G.2) (zsL s c e) := by
  obtain ⟨z0, z1, zc, z2, z3, z4, z5⟩ := z
  have hlt := w.2.2.2.2
  have hi : ∀ y, y ∈ zL s → zu G.1 (zM s) a y = G.1 y := fun y hy => zu_n (Nat.ne_of_lt (hlt y hy))
  have nf : ∀ a : Nat, ¬ False := fun _ y => y
  have z3' := z3.fr F (fun _ _ y => y)
  have z5' := z5.fr F (fun _ _ y => y)
  refine ⟨z0.fr F (fun _ _ y => y), fun i hi' => ((z1 i hi').fr F (fun _ _ y => y)).la (w.1 i hi').1 hi, (zc.fr F (fun _ _ y => y)).la (fun y hy => hi y (w.2.1.2 y hy)), (z2.fr zc z1 F (fun _ _ y => y) (fun _ _ _ _ y => y) (fun _ _ y => y) (fun _ _ _ y => y)).la w.2.2.1.2 (fun i hi' => (w.1 i hi').2.2.1) hi, ?_, z4.fr F (fun _ _ y => y), ?_⟩
  · obtain ⟨ys, c0, y1, y2, y3, y4⟩ := z3'
    exact ⟨ys, c0, y1.la (fun y hy => hi y (y3 y hy)), y2, fun y hy => List.mem_cons_of_mem _ (y3 y hy), y4⟩
  · have ne : ∀ x ∈ zL s, G.1 x ≠ a := fun x hx u => by have := (z5.1 x hx).1.1; rw [u] at this; omega
    have eT : ∀ x ∈ zL s, zu (zT s) (zM s) (c, e) x = zT s x := fun x hx => zu_n (Nat.ne_of_lt (hlt x hx))
    refine ⟨fun x hx => ?_, fun x hx y hy u => ?_⟩
    · show LT (zu G.1 (zM s) a) (zu (zT s) (zM s) (c, e)) h1 x ∧ own h1 (zu G.1 (zM s) a x) = .ref 30
      rcases List.mem_cons.mp hx with rfl | hx
      · unfold LT
        rw [zu_s, zu_s]
        exact ⟨⟨hk, hf, hg, hc, he⟩, ho⟩
      · have := z5'.1 x hx
        unfold LT at this ⊢
        rw [hi x hx, eT x hx]
        exact this
    · have u : zu G.1 (zM s) a x = zu G.1 (zM s) a y := u
      rcases List.mem_cons.mp hx with rfl | hx
      · rcases List.mem_cons.mp hy with rfl | hy
        · rfl
        · rw [zu_s, hi y hy] at u
          exact absurd u.symm (ne y hy)
      · rcases List.mem_cons.mp hy with rfl | hy
        · rw [zu_s, hi x hx] at u
          exact absurd u (ne x hx)
        · rw [hi x hx, hi y hy] at u
          exact z5.2 x hx y hy u
/-- the list of what is kept is set -/
theorem ER.kept {la : Nat → Nat} {h h' : AH} {e : Nat} {g : Nat → Nat} {x : EQ} {R : List Nat} {K : List KO} (z : ER la h e g x) (F : Fr (fun a => a = g 6) h h') (hL : qL h' (g 6) = R) (hK : KPs la h' R K) (nd : R.Nodup) (ho : ∀ r ∈ R, own h' r = te e) (hc : qC h' (g 6) ≤ 301) : ER la h' e g (eP x K) ∧ UD h h' g ∧ (∀ i, 2 ≤ i → i ≤ 3 → qL h' (g i) = qL h (g i)) := by
  obtain ⟨z1, ⟨c, z2, z3⟩, ⟨R2, R3, z4, z5, z6⟩, -, z12, z13, z14⟩ := z
  have n : ∀ i, 2 ≤ i → i ≤ 7 → i ≠ 6 → ¬ (g i = g 6) := fun i a b c => z1.ne a b (by decide) (by decide) c
  have n0 : ¬ (g 0 = g 6) := z1.n0 (by decide) (by decide)
  have n1 : ¬ (g 1 = g 6) := z1.n1 (by decide) (by decide)
  have nk : ∀ r, qK h r ≠ 11 → ¬ (r = g 6) := fun r k y => k (by rw [y]; exact z1.l 6)
  exact ⟨⟨z1.fr F n0, ⟨c, z2.fr F n1 (n 7 (by decide) (by decide) (by decide)), z3⟩, ⟨R2, R3, z4.fr F (z1.k 2) (n 2 (by decide) (by decide) (by decide)) (fun r hr => nk r (by rw [z4.2.1.kind hr]; decide)), z5.fr F (z1.k 3) (n 3 (by decide) (by decide) (by decide)) (fun r hr => nk r (by rw [z5.2.1.kind hr]; decide)), z6⟩, ⟨R, hL, hK, nd, ho, hc⟩, F.F z1.k0 n0 z12, F.F z1.k0 n0 z13, F.F z1.k0 n0 z14⟩, F.UD z1 (n 4 (by decide) (by decide) (by decide)) (n 5 (by decide) (by decide) (by decide)), fun i a b => F.L (z1.k i a (by omega)) (n i a (by omega) (by omega))⟩
