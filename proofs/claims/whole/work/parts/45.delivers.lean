/-! DELIVERING, BUILDING AGAIN -/
def hop : List MG → List SO
  | [] => []
  | m :: H => m.2.2 ++ hop H
theorem hop_app : ∀ A B : List MG, hop (A ++ B) = hop A ++ hop B
  | [], _ => rfl
  | m :: A, B => by
    show m.2.2 ++ hop (A ++ B) = m.2.2 ++ hop A ++ hop B
    rw [hop_app A B, List.append_assoc]
theorem hop_mem {o : SO} : ∀ {H : List MG}, o ∈ hop H → ∃ m ∈ H, o ∈ m.2.2
  | [], h => absurd h List.not_mem_nil
  | m :: H, h => by
    rcases List.mem_append.mp (show o ∈ m.2.2 ++ hop H from h) with u | u
    · exact ⟨m, List.mem_cons_self, u⟩
    · obtain ⟨a, b, c⟩ := hop_mem u
      exact ⟨a, List.mem_cons_of_mem _ b, c⟩
theorem hop_len : ∀ H : List MG, (hop H).length = (H.map (fun x => x.2.2.length)).sum
  | [] => rfl
  | m :: H => by
    show (m.2.2 ++ hop H).length = m.2.2.length + (H.map (fun x => x.2.2.length)).sum
    rw [List.length_append, hop_len H]
theorem apS_mem {O : List SO} : ∀ {xs : List Nat} {x : Nat}, x ∈ apS O xs → x ∈ xs ∨ ∃ o ∈ O, x = o.2.2.1 := by
  induction O with
  | nil => intro xs x h; exact Or.inl h
  | cons o O ih =>
    intro xs x h
    rcases ih (show x ∈ apS O (apO o xs) from h) with u | ⟨b, hb, e⟩
    · rcases apO_mem u with u | u
      · exact Or.inl u
      · exact Or.inr ⟨o, List.mem_cons_self, u.2⟩
    · exact Or.inr ⟨b, List.mem_cons_of_mem _ hb, e⟩
theorem RC1.up {la : Nat → Nat} {h h' : AH} {g : Nat → Nat → Nat} {E : Nat → EQ} {i : Nat} (z : RC1 la h g E) (hi : i ≤ 1) (F : Fr (fun a => a = g i 4 ∨ a = g i 5) h h') : RC1 la h' g E := fun e he => by
  by_cases ei : e = i
  · subst ei
    exact (z e he).up F (fun _ _ y => y)
  · have es := (z i hi).1
    refine (z e he).fr F (fun a ha y => ?_)
    rcases y with y | y
    · rw [y, es.o 4] at ha
      exact ref_ne (a := 20 + i) (b := 20 + e) (by omega) ha
    · rw [y, es.o 5] at ha
      exact ref_ne (a := 20 + i) (b := 20 + e) (by omega) ha
def upOK (s : SQ) (m : MG) : Prop := m.2.1 ≤ (zH s).length ∧ (zC s).length + m.2.2.length ≤ 200 ∧ (((zH s).drop m.2.1).map (fun x => x.2.2.length)).sum ≤ 200 ∧ (∀ i, i ≤ ((zH s).drop m.2.1).length → ∀ x, ((zH s).drop m.2.1)[i]? = some x → ∀ j, j ≤ x.2.2.length → ∀ o ∈ trl (entR m.2.2 (((zH s).drop m.2.1).take i)) (x.2.2.take j), wO (fun x => x ∈ zL s) o) ∧ ∀ o ∈ entR m.2.2 ((zH s).drop m.2.1), wO (fun x => x ∈ zL s) o
def sUp (s : SQ) (e : Nat) (m : MG) : SQ := (s.1, zu s.2.1 e [], apS (entR m.2.2 ((zH s).drop m.2.1)) (zC s), zH s ++ [(m.1, m.2.1, entR m.2.2 ((zH s).drop m.2.1))], s.2.2.2.2)
def dnQ (s : SQ) (e : Nat) (m : MG) : List SO := if m.1 = e then (eW (zE s e)).take (rln (eW (zE s e))) else []
def sDn (s : SQ) (e : Nat) (m : MG) : SQ := zsU (zsE s e (gte e m.1 m.2.2 (zE s e))) e (if dnQ s e m = [] then zU s e else zU s e ++ [(e, eR (zE s e) + 1, dnQ s e m)])
theorem gte_rv (e me : Nat) (O : List SO) (x : EQ) : eR (gte e me O x) = eR x + 1 := by
  unfold gte
  split
  · rfl
  · exact fols_rv O (rvs x)
/-- a message has entered -/
theorem RC.entered {h h2 h3 h4 : AH} {q ml e : Nat} {G : GQ} {s : SQ} {m : MG} {Hs : List Nat} {Us : Nat → List Nat} {X : List SO} (z : RC h q G s) (he : e ≤ 1) (hl : (zH s).length ≤ 200) (hrv : ∀ i, i ≤ 1 → eR (zE s i) ≤ (zH s).length) (y1 : qL h (G.2.2.1 2) = Hs) (y2 : HS G.1 h Hs (zH s)) (y3 : ∀ e, e ≤ 1 → HS G.1 h (Us e) (zU s e) ∧ qL h (G.2.1 e 4) = Us e ∧ qC h (G.2.1 e 4) ≤ 301 ∧ qL h (G.2.1 e 5) = Hs.drop (eR (zE s e)) ∧ qC h (G.2.1 e 5) ≤ 301) (y4 : Hs.Nodup) (y5 : ∀ e, e ≤ 1 → (Us e).Nodup ∧ ∀ m ∈ Us e, m ∉ Hs) (y6 : ∀ m ∈ Us 0, m ∉ Us 1) (hU : Us e = [ml]) (hmo : own h ml = .ref 35)
    (F1 : Fr (fun a => own (sL h (G.2.1 e 4) [] (qC h (G.2.1 e 4))) a = te 2 ∨ own (sL h (G.2.1 e 4) [] (qC h (G.2.1 e 4))) a = .ref (40 + ml)) (sL h (G.2.1 e 4) [] (qC h (G.2.1 e 4))) h2) (c2 : CE G.1 h2 G.2.2.1 (apS X (zC s))) (L2 : qL h2 (G.2.2.1 2) = Hs ++ [ml]) (H2 : HS G.1 h2 (Hs ++ [ml]) (zH s ++ [(m.1, m.2.1, X)]))
    (e3 : h3 = sL h2 (G.2.1 0 5) (qL h2 (G.2.1 0 5) ++ [ml]) (gcap (qL h2 (G.2.1 0 5)).length (qC h2 (G.2.1 0 5)))) (e4 : h4 = sL h3 (G.2.1 1 5) (qL h3 (G.2.1 1 5) ++ [ml]) (gcap (qL h3 (G.2.1 1 5)).length (qC h3 (G.2.1 1 5)))) :
    RC h4 q G (s.1, zu s.2.1 e [], apS X (zC s), zH s ++ [(m.1, m.2.1, X)], s.2.2.2.2) ∧ FC h h4 := by
  obtain ⟨z0, z1, zc, -, z3, z4, z5⟩ := z
  have F0 : Fr (fun a => a = G.2.1 e 4 ∨ a = G.2.1 e 5) h (sL h (G.2.1 e 4) [] (qC h (G.2.1 e 4))) := Fr_sL (Or.inl rfl)
  have F3 : Fr (fun a => a = G.2.1 0 4 ∨ a = G.2.1 0 5) h2 h3 := by rw [e3]; exact Fr_sL (Or.inr rfl)
  have F4 : Fr (fun a => a = G.2.1 1 4 ∨ a = G.2.1 1 5) h3 h4 := by rw [e4]; exact Fr_sL (Or.inr rfl)
  have q1 : RC1 G.1 (sL h (G.2.1 e 4) [] (qC h (G.2.1 e 4))) G.2.1 (zE s) := z1.up he F0
  have q2 : RC1 G.1 h2 G.2.1 (zE s) := q1.fr F1 (fun i hi a y u => u.elim (fun u => ref_ne (a := 20 + i) (b := 22) (by omega) (y.symm.trans u)) (fun u => ref_ne (a := 20 + i) (b := 40 + ml) (by omega) (y.symm.trans u)))
  have q3 : RC1 G.1 h3 G.2.1 (zE s) := q2.up (by decide) F3
  have q4 : RC1 G.1 h4 G.2.1 (zE s) := q3.up (by decide) F4
  have es := fun i hi => (z1 i hi).1
  have es2 := fun i hi => (q2 i hi).1
  have es3 := fun i hi => (q3 i hi).1
  -- all in one
  have FA : Fr (fun a => own h a = te 0 ∨ own h a = te 1 ∨ own h a = te 2 ∨ own h a = .ref (40 + ml)) h h4 := by
    have A0 : Fr (fun a => own h a = te 0 ∨ own h a = te 1 ∨ own h a = te 2 ∨ own h a = .ref (40 + ml)) h h2 := F0.trans F1 (fun a _ y => by
      have : own h a = te e := y.elim (fun y => by rw [y]; exact (es e he).o 4) (fun y => by rw [y]; exact (es e he).o 5)
      rcases (show e = 0 ∨ e = 1 by omega) with rfl | rfl
      · exact Or.inl this
      · exact Or.inr (Or.inl this)) (fun a _ y => Or.inr (Or.inr y))
    have o2 : ∀ i (hi : i ≤ 1) a, a = G.2.1 i 4 ∨ a = G.2.1 i 5 → own h a = te i := fun i hi a y => y.elim (fun y => by rw [y]; exact (es i hi).o 4) (fun y => by rw [y]; exact (es i hi).o 5)
    exact (A0.trans F3 (fun _ _ y => y) (fun a _ y => Or.inl (o2 0 (by decide) a y))).trans F4 (fun _ _ y => y) (fun a _ y => Or.inr (Or.inl (o2 1 (by decide) a y)))
  have N : ∀ i : Nat, 3 ≤ i → i ≤ 9 → ∀ a, own h a = te i → ¬ (own h a = te 0 ∨ own h a = te 1 ∨ own h a = te 2 ∨ own h a = .ref (40 + ml)) := fun i h3 h9 a y u => by
    rcases u with u | u | u | u
    · exact ref_ne (a := 20 + i) (b := 20) (by omega) (y.symm.trans u)
    · exact ref_ne (a := 20 + i) (b := 21) (by omega) (y.symm.trans u)
    · exact ref_ne (a := 20 + i) (b := 22) (by omega) (y.symm.trans u)
    · exact ref_ne (a := 20 + i) (b := 40 + ml) (by omega) (y.symm.trans u)
  have N' : ∀ t : Nat, 23 ≤ t → t ≠ 40 + ml → ∀ a, own h a = .ref t → ¬ (own h a = te 0 ∨ own h a = te 1 ∨ own h a = te 2 ∨ own h a = .ref (40 + ml)) := fun t ht hn a y u => by
    rcases u with u | u | u | u
    · exact ref_ne (a := t) (b := 20) (by omega) (y.symm.trans u)
    · exact ref_ne (a := t) (b := 21) (by omega) (y.symm.trans u)
    · exact ref_ne (a := t) (b := 22) (by omega) (y.symm.trans u)
    · exact ref_ne hn (y.symm.trans u)
  have hne : ∀ i, i ≤ 1 → i ≠ e → ∀ m' ∈ Us i, m' ≠ ml := fun i hi ei m' hm' u => by
    subst u
    have hme : m' ∈ Us e := by rw [hU]; exact List.mem_cons_self
    rcases (show (e = 0 ∧ i = 1) ∨ (e = 1 ∧ i = 0) by omega) with ⟨rfl, rfl⟩ | ⟨rfl, rfl⟩
    · exact y6 m' hme hm'
    · exact y6 m' hm' hme
  have n2 : ∀ i, i ≤ 1 → ∀ a, own h2 a = te 2 → ¬ (a = G.2.1 i 4 ∨ a = G.2.1 i 5) := fun i hi a y u => by
    rcases u with u | u
    · rw [u, (es2 i hi).o 4] at y; exact ref_ne (a := 20 + i) (b := 22) (by omega) y
    · rw [u, (es2 i hi).o 5] at y; exact ref_ne (a := 20 + i) (b := 22) (by omega) y
  have n3 : ∀ i, i ≤ 1 → ∀ a, own h3 a = te 2 → ¬ (a = G.2.1 i 4 ∨ a = G.2.1 i 5) := fun i hi a y u => by
    rcases u with u | u
    · rw [u, (es3 i hi).o 4] at y; exact ref_ne (a := 20 + i) (b := 22) (by omega) y
    · rw [u, (es3 i hi).o 5] at y; exact ref_ne (a := 20 + i) (b := 22) (by omega) y
  have t2 : ∀ t : Nat, 22 ≤ t → ∀ i, i ≤ 1 → ∀ a, own h2 a = .ref t → ¬ (a = G.2.1 i 4 ∨ a = G.2.1 i 5) := fun t ht i hi a y u => by
    rcases u with u | u
    · rw [u, (es2 i hi).o 4] at y; exact ref_ne (a := 20 + i) (b := t) (by omega) y
    · rw [u, (es2 i hi).o 5] at y; exact ref_ne (a := 20 + i) (b := t) (by omega) y
  have t3 : ∀ t : Nat, 22 ≤ t → ∀ i, i ≤ 1 → ∀ a, own h3 a = .ref t → ¬ (a = G.2.1 i 4 ∨ a = G.2.1 i 5) := fun t ht i hi a y u => by
    rcases u with u | u
    · rw [u, (es3 i hi).o 4] at y; exact ref_ne (a := 20 + i) (b := t) (by omega) y
    · rw [u, (es3 i hi).o 5] at y; exact ref_ne (a := 20 + i) (b := t) (by omega) y
  have kc2 : qK h2 (G.2.2.1 2) ≠ 0 := by have := c2.2.2.2.2.1; omega
  have oc2 := c2.2.2.2.2.2.2.2
  have c3 : CE G.1 h3 G.2.2.1 (apS X (zC s)) := c2.fr F3 (fun i hi => n2 0 (by decide) _ (oc2 i hi))
  have c4 : CE G.1 h4 G.2.2.1 (apS X (zC s)) := c3.fr F4 (fun i hi => n3 1 (by decide) _ (c3.2.2.2.2.2.2.2 i hi))
  have L4 : qL h4 (G.2.2.1 2) = Hs ++ [ml] := (F4.L (by have := c3.2.2.2.2.1; omega) (n3 1 (by decide) _ (c3.2.2.2.2.2.2.2 2 (by decide)))).trans ((F3.L kc2 (n2 0 (by decide) _ (oc2 2 (by decide)))).trans L2)
  have H4 : HS G.1 h4 (Hs ++ [ml]) (zH s ++ [(m.1, m.2.1, X)]) := (H2.fr F3 (t2 35 (by decide) 0 (by decide)) (fun (m : Nat) _ => t2 (40 + m) (Nat.le_trans (show 22 ≤ 40 by decide) (Nat.le_add_right 40 m)) 0 (by decide))).fr F4 (t3 35 (by decide) 1 (by decide)) (fun (m : Nat) _ => t3 (40 + m) (Nat.le_trans (show 22 ≤ 40 by decide) (Nat.le_add_right 40 m)) 1 (by decide))
  have hHl := y2.1
  -- the lists
  have d5 : ∀ i (hi : i ≤ 1), qL h2 (G.2.1 i 5) = Hs.drop (eR (zE s i)) ∧ qC h2 (G.2.1 i 5) ≤ 301 := fun i hi => by
    have hk : qK h (G.2.1 i 5) ≠ 0 := (es i hi).k 5
    have hn4 : G.2.1 i 5 ≠ G.2.1 e 4 := fun u => by
      by_cases ei : i = e
      · subst ei; exact (es i hi).ne (by decide) (by decide) (by decide) (by decide) (by decide) u
      · have a := (es i hi).o 5
        rw [u, (es e he).o 4] at a
        exact ref_ne (a := 20 + e) (b := 20 + i) (by omega) a
    have o1 : own (sL h (G.2.1 e 4) [] (qC h (G.2.1 e 4))) (G.2.1 i 5) = te i := (es i hi).o 5
    have no : ¬ (own (sL h (G.2.1 e 4) [] (qC h (G.2.1 e 4))) (G.2.1 i 5) = te 2 ∨ own (sL h (G.2.1 e 4) [] (qC h (G.2.1 e 4))) (G.2.1 i 5) = .ref (40 + ml)) := fun u => u.elim (fun u => ref_ne (a := 20 + i) (b := 22) (by omega) (o1.symm.trans u)) (fun u => ref_ne (a := 20 + i) (b := 40 + ml) (by omega) (o1.symm.trans u))
    obtain ⟨-, -, -, a4, a5⟩ := y3 i hi
    refine ⟨(F1.L hk no).trans ?_, ?_⟩
    · rw [qL_sL, if_neg hn4]; exact a4
    · rw [F1.C hk no, qC_sL, if_neg hn4]; exact a5
  have ne01 : G.2.1 1 5 ≠ G.2.1 0 5 := fun u => by
    have a := (es 1 (by decide)).o 5
    rw [u, (es 0 (by decide)).o 5] at a
    exact ref_ne (a := 20) (b := 21) (by decide) a
  have app : ∀ i, i ≤ 1 → Hs.drop (eR (zE s i)) ++ [ml] = (Hs ++ [ml]).drop (eR (zE s i)) := fun i hi => by
    rw [List.drop_append_of_le_length (by have := hrv i hi; omega)]
  have cap : ∀ i, i ≤ 1 → ∀ c, c ≤ 301 → gcap (Hs.drop (eR (zE s i))).length c ≤ 301 := fun i hi c hc => Nat.le_trans (gcap_max (by rw [List.length_drop]; omega)) (by omega)
  obtain ⟨d01, d02⟩ := d5 0 (by decide)
  obtain ⟨d11, d12⟩ := d5 1 (by decide)
  have g31 : qL h3 (G.2.1 1 5) = Hs.drop (eR (zE s 1)) := by rw [e3, qL_sL, if_neg ne01]; exact d11
  have g32 : qC h3 (G.2.1 1 5) ≤ 301 := by rw [e3, qC_sL, if_neg ne01]; exact d12
  have f0 : qL h4 (G.2.1 0 5) = (Hs ++ [ml]).drop (eR (zE s 0)) := by rw [e4, qL_sL, if_neg ne01.symm, e3, qL_sL, if_pos rfl, d01]; exact app 0 (by decide)
  have f0c : qC h4 (G.2.1 0 5) ≤ 301 := by rw [e4, qC_sL, if_neg ne01.symm, e3, qC_sL, if_pos rfl, d01]; exact cap 0 (by decide) _ d02
  have f1 : qL h4 (G.2.1 1 5) = (Hs ++ [ml]).drop (eR (zE s 1)) := by rw [e4, qL_sL, if_pos rfl, g31]; exact app 1 (by decide)
  have f1c : qC h4 (G.2.1 1 5) ≤ 301 := by rw [e4, qC_sL, if_pos rfl, g31]; exact cap 1 (by decide) _ g32
  have n45 : ∀ i j, i ≤ 1 → j ≤ 1 → G.2.1 i 4 ≠ G.2.1 j 5 := fun i j hi hj u => by
    by_cases ei : i = j
    · subst ei; exact (es i hi).ne (by decide) (by decide) (by decide) (by decide) (by decide) u
    · have a := (es i hi).o 4
      rw [u, (es j hj).o 5] at a
      exact ref_ne (a := 20 + j) (b := 20 + i) (by omega) a
  have u4 : ∀ i (hi : i ≤ 1), qL h4 (G.2.1 i 4) = zu Us e [] i ∧ qC h4 (G.2.1 i 4) ≤ 301 := fun i hi => by
    have hk : qK h (G.2.1 i 4) ≠ 0 := (es i hi).k 4
    have o1 : own (sL h (G.2.1 e 4) [] (qC h (G.2.1 e 4))) (G.2.1 i 4) = te i := (es i hi).o 4
    have no : ¬ (own (sL h (G.2.1 e 4) [] (qC h (G.2.1 e 4))) (G.2.1 i 4) = te 2 ∨ own (sL h (G.2.1 e 4) [] (qC h (G.2.1 e 4))) (G.2.1 i 4) = .ref (40 + ml)) := fun u => u.elim (fun u => ref_ne (a := 20 + i) (b := 22) (by omega) (o1.symm.trans u)) (fun u => ref_ne (a := 20 + i) (b := 40 + ml) (by omega) (o1.symm.trans u))
    obtain ⟨-, a2, a3, -, -⟩ := y3 i hi
    rw [e4, qL_sL, if_neg (n45 i 1 hi (by decide)), qC_sL, if_neg (n45 i 1 hi (by decide)), e3, qL_sL, if_neg (n45 i 0 hi (by decide)), qC_sL, if_neg (n45 i 0 hi (by decide)), F1.L hk no, F1.C hk no, qL_sL, qC_sL]
    by_cases ei : i = e
    · subst ei
      rw [if_pos rfl, if_pos rfl, zu_s]
      exact ⟨rfl, a3⟩
    · have hn4 : G.2.1 i 4 ≠ G.2.1 e 4 := fun u => by
        have a := (es i hi).o 4
        rw [u, (es e he).o 4] at a
        exact ref_ne (a := 20 + e) (b := 20 + i) (by omega) a
      rw [if_neg hn4, if_neg hn4, zu_n ei]
      exact ⟨a2, a3⟩
  refine ⟨⟨z0.fr FA (N 5 (by decide) (by decide)), q4, c4, ⟨Hs ++ [ml], zu Us e [], L4, H4, fun i hi => ?_, ?_, fun i hi => ?_, ?_⟩, z3.fr FA (N 3 (by decide) (by decide)), z4.fr FA (N 4 (by decide) (by decide)), z5.fr FA (N' 30 (by decide) (by omega))⟩, FC.of FA (fun a _ y => ?_)⟩
  · obtain ⟨u41, u42⟩ := u4 i hi
    refine ⟨?_, u41, u42, ?_⟩
    · show HS G.1 h4 (zu Us e [] i) (zu s.2.1 e [] i)
      by_cases ei : i = e
      · subst ei; rw [zu_s, zu_s]; exact HS.nil _ _
      · rw [zu_n ei, zu_n ei]
        exact (y3 i hi).1.fr FA (N' 35 (by decide) (Nat.ne_of_lt (Nat.lt_of_lt_of_le (show 35 < 40 by decide) (Nat.le_add_right 40 ml)))) (fun (m' : Nat) hm' => N' (40 + m') (Nat.le_trans (show 23 ≤ 40 by decide) (Nat.le_add_right 40 m')) (fun u => hne i hi ei m' hm' (Nat.add_left_cancel u)))
    · rcases (show i = 0 ∨ i = 1 by omega) with rfl | rfl
      · exact ⟨f0, f0c⟩
      · exact ⟨f1, f1c⟩
  · rw [List.nodup_append]
    exact ⟨y4, by simp, fun a ha b hb u => by
      simp at hb
      rw [hb] at u
      exact (y5 e he).2 ml (by rw [hU]; exact List.mem_cons_self) (by rw [← u]; exact ha)⟩
  · by_cases ei : i = e
    · subst ei; rw [zu_s]; exact ⟨List.nodup_nil, fun m hm => absurd hm List.not_mem_nil⟩
    · rw [zu_n ei]
      refine ⟨(y5 i hi).1, fun m' hm' u => ?_⟩
      rcases List.mem_append.mp u with u | u
      · exact (y5 i hi).2 m' hm' u
      · simp at u; exact hne i hi ei m' hm' u
  · intro m' h0 h1
    rcases (show e = 0 ∨ e = 1 by omega) with rfl | rfl
    · rw [zu_s] at h0; exact absurd h0 List.not_mem_nil
    · rw [zu_s] at h1; exact absurd h1 List.not_mem_nil
  · rcases y with y | y | y | y
    · exact te_oth (by decide) y
    · exact te_oth (by decide) y
    · exact te_oth (by decide) y
    · exact tg_oth (Nat.le_trans (show 12 ≤ 40 by decide) (Nat.le_add_right 40 ml)) y
