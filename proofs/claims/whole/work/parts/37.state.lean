/-! THE WHOLE STATE -/
/-- ends, what is up, text of the centre, history, operations made, letters: code and owner, which letters are there -/
abbrev SQ : Type := (Nat → EQ) × (Nat → List MG) × List Nat × List MG × Nat × (Nat → Nat × Nat) × List Nat
def zE (s : SQ) (e : Nat) : EQ := s.1 e
def zU (s : SQ) (e : Nat) : List MG := s.2.1 e
def zC (s : SQ) : List Nat := s.2.2.1
def zH (s : SQ) : List MG := s.2.2.2.1
def zM (s : SQ) : Nat := s.2.2.2.2.1
def zT (s : SQ) : Nat → Nat × Nat := s.2.2.2.2.2.1
def zL (s : SQ) : List Nat := s.2.2.2.2.2.2
def eX (x : EQ) : List Nat := x.1
def eS (x : EQ) : List SO := x.2.1
def eW (x : EQ) : List SO := x.2.2.1
def eK (x : EQ) : List KO := x.2.2.2.1
def eC (x : EQ) : Nat := x.2.2.2.2.1
def eMk (x : EQ) : Nat := x.2.2.2.2.2.1
def eR (x : EQ) : Nat := x.2.2.2.2.2.2
def zu {α : Type} (f : Nat → α) (e : Nat) (v : α) : Nat → α := fun j => if j = e then v else f j
theorem zu_s {α : Type} {f : Nat → α} {e : Nat} {v : α} : zu f e v e = v := if_pos rfl
theorem zu_n {α : Type} {f : Nat → α} {e j : Nat} {v : α} (h : j ≠ e) : zu f e v j = f j := if_neg h
/-- bounds -/
def wM (dm : Nat → Prop) (m : MG) : Prop := m.1 ≤ 1 ∧ m.2.1 ≤ 200 ∧ m.2.2.length ≤ 200 ∧ ∀ o ∈ m.2.2, wO dm o
def WS' (s : SQ) : Prop := (∀ e, e ≤ 1 → WE (fun x => x ∈ zL s) (zE s e) ∧ (zU s e).length ≤ 1 ∧ (∀ m ∈ zU s e, wM (fun x => x ∈ zL s) m) ∧ eR (zE s e) ≤ (zH s).length) ∧ ((zC s).length ≤ 200 ∧ ∀ y ∈ zC s, y ∈ zL s) ∧ ((zH s).length ≤ 200 ∧ ∀ m ∈ zH s, wM (fun x => x ∈ zL s) m) ∧ zM s ≤ 200 ∧ (∀ x ∈ zL s, x < zM s)
/-! the letters' addresses may change elsewhere -/
theorem OP.la {la lb : Nat → Nat} {h : AH} {a : Nat} {o : SO} (z : OP la h a o) (e : lb o.2.2.1 = la o.2.2.1) : OP lb h a o := ⟨z.1, z.2.1, by rw [e]; exact z.2.2.1, z.2.2.2⟩
theorem OPs.la {la lb : Nat → Nat} {h : AH} {R : List Nat} {O : List SO} (z : OPs la h R O) (e : ∀ o ∈ O, lb o.2.2.1 = la o.2.2.1) : OPs lb h R O := ⟨z.1, fun j r o x y => (z.2 j r o x y).la (e o (List.mem_of_getElem? y))⟩
theorem KPs.la {la lb : Nat → Nat} {h : AH} {R : List Nat} {O : List KO} (z : KPs la h R O) (e : ∀ o ∈ O, lb o.2.1 = la o.2.1) : KPs lb h R O := ⟨z.1, fun j r o x y => by
  obtain ⟨w1, w2, w3, w4⟩ := z.2 j r o x y
  exact ⟨w1, w2, by rw [e o (List.mem_of_getElem? y)]; exact w3, w4⟩⟩
theorem TX.la {la lb : Nat → Nat} {h : AH} {t tl c : Nat} {xs : List Nat} (z : TX la h t tl xs c) (e : ∀ x ∈ xs, lb x = la x) : TX lb h t tl xs c := ⟨z.1, z.2.1, z.2.2.1, by rw [z.2.2.2.1]; exact (List.map_congr_left e).symm, z.2.2.2.2⟩
theorem ER.la {la lb : Nat → Nat} {dm : Nat → Prop} {h : AH} {e : Nat} {g : Nat → Nat} {x : EQ} (z : ER la h e g x) (w : WE dm x) (i : ∀ y, dm y → lb y = la y) : ER lb h e g x := by
  obtain ⟨z1, ⟨c, z2, z3⟩, ⟨R2, R3, z4, z5, z6⟩, ⟨R, z7, z8, z9⟩, z12⟩ := z
  obtain ⟨⟨w1, w2⟩, ⟨w3, w4⟩, ⟨w5, w6⟩, ⟨w7, w8⟩, w9⟩ := w
  exact ⟨z1, ⟨c, z2.la (fun y hy => i y (w2 y hy)), z3⟩, ⟨R2, R3, ⟨z4.1, z4.2.1.la (fun o ho => i _ (w4 o ho).2.2.2), z4.2.2⟩, ⟨z5.1, z5.2.1.la (fun o ho => i _ (w6 o ho).2.2.2), z5.2.2⟩, z6⟩, ⟨R, z7, z8.la (fun k hk => i _ (w8 k hk).2.2), z9⟩, z12⟩
theorem CE.la {la lb : Nat → Nat} {h : AH} {gc : Nat → Nat} {xs : List Nat} (z : CE la h gc xs) (e : ∀ x ∈ xs, lb x = la x) : CE lb h gc xs := by
  obtain ⟨z1, z2, z3, ⟨c, z4, z5⟩, z6⟩ := z
  exact ⟨z1, z2, z3, ⟨c, z4.la e, z5⟩, z6⟩
theorem HS.la {la lb : Nat → Nat} {dm : Nat → Prop} {h : AH} {Hs : List Nat} {H : List MG} (z : HS la h Hs H) (w : ∀ m ∈ H, wM dm m) (i : ∀ y, dm y → lb y = la y) : HS lb h Hs H := ⟨z.1, fun j m x a b => by
  obtain ⟨ol, R, y1, y2, y3, y4, y5⟩ := z.2 j m x a b
  exact ⟨ol, R, y1, y2, y3, y4.la (fun o ho => i _ ((w x (List.mem_of_getElem? b)).2.2.2 o ho).2.2.2), y5⟩⟩
/-! the object and all that belongs to it -/
def RC0 (h : AH) (q : Nat) (g : Nat → Nat → Nat) (gc gb : Nat → Nat) (n : Nat) : Prop := qK h q = 9 ∧ qF h 800 q = .ref (g 0 0) ∧ qF h 801 q = .ref (g 1 0) ∧ qF h 802 q = .ref (gc 0) ∧ qF h 803 q = .ref (gb 0) ∧ qF h 804 q = .ref (gb 2) ∧ qF h 805 q = .int (nI n) ∧ own h q = te 5
def RC1 (la : Nat → Nat) (h : AH) (g : Nat → Nat → Nat) (E : Nat → EQ) : Prop := ∀ e, e ≤ 1 → ER la h e (g e) (E e)
def RC2 (la : Nat → Nat) (h : AH) (g : Nat → Nat → Nat) (gc : Nat → Nat) (E : Nat → EQ) (U : Nat → List MG) (H : List MG) : Prop := ∃ Hs : List Nat, ∃ Us : Nat → List Nat, qL h (gc 2) = Hs ∧ HS la h Hs H ∧ (∀ e, e ≤ 1 → HS la h (Us e) (U e) ∧ qL h (g e 4) = Us e ∧ qC h (g e 4) ≤ 301 ∧ qL h (g e 5) = Hs.drop (eR (E e)) ∧ qC h (g e 5) ≤ 301) ∧ Hs.Nodup ∧ (∀ e, e ≤ 1 → (Us e).Nodup ∧ ∀ m ∈ Us e, m ∉ Hs) ∧ (∀ m ∈ Us 0, m ∉ Us 1)
def RC3 (la : Nat → Nat) (h : AH) (gb : Nat → Nat) (L : List Nat) : Prop := ∃ ys c, TX la h (gb 0) (gb 1) ys c ∧ c ≤ 301 ∧ (∀ y ∈ ys, y ∈ L) ∧ own h (gb 0) = te 3 ∧ own h (gb 1) = te 3
def RC4 (h : AH) (gb : Nat → Nat) : Prop := CG h (gb 2) (gb 3) (gb 4) ∧ ∀ i, 2 ≤ i → i ≤ 4 → own h (gb i) = te 4
def RC5 (la : Nat → Nat) (h : AH) (tb : Nat → Nat × Nat) (L : List Nat) : Prop := (∀ x ∈ L, LT la tb h x ∧ own h (la x) = .ref 30) ∧ ∀ x ∈ L, ∀ y ∈ L, la x = la y → x = y
/-- addresses: of letters, ends, centre, the rest -/
abbrev GQ : Type := (Nat → Nat) × (Nat → Nat → Nat) × (Nat → Nat) × (Nat → Nat)
def RC (h : AH) (q : Nat) (G : GQ) (s : SQ) : Prop := RC0 h q G.2.1 G.2.2.1 G.2.2.2 (zM s) ∧ RC1 G.1 h G.2.1 (zE s) ∧ CE G.1 h G.2.2.1 (zC s) ∧ RC2 G.1 h G.2.1 G.2.2.1 (zE s) (zU s) (zH s) ∧ RC3 G.1 h G.2.2.2 (zL s) ∧ RC4 h G.2.2.2 ∧ RC5 G.1 h (zT s) (zL s)
theorem RC0.fr {h h' : AH} {q : Nat} {g : Nat → Nat → Nat} {gc gb : Nat → Nat} {n : Nat} {S : Nat → Prop} (z : RC0 h q g gc gb n) (F : Fr S h h') (hs : ∀ a, own h a = te 5 → ¬ S a) : RC0 h' q g gc gb n := by
  obtain ⟨z1, z2, z3, z4, z5, z6, z7, z8⟩ := z
  have k : qK h q ≠ 0 := by omega
  have s := hs q z8
  exact ⟨F.K z1 (by decide), F.F k s z2, F.F k s z3, F.F k s z4, F.F k s z5, F.F k s z6, F.F k s z7, F.O k z8⟩
theorem RC1.fr {la : Nat → Nat} {h h' : AH} {g : Nat → Nat → Nat} {E : Nat → EQ} {S : Nat → Prop} (z : RC1 la h g E) (F : Fr S h h') (hs : ∀ e, e ≤ 1 → ∀ a, own h a = te e → ¬ S a) : RC1 la h' g E := fun e he => (z e he).fr F (hs e he)
theorem RC2.fr {la : Nat → Nat} {h h' : AH} {g : Nat → Nat → Nat} {gc : Nat → Nat} {E : Nat → EQ} {U : Nat → List MG} {H : List MG} {xs : List Nat} {S : Nat → Prop} (z : RC2 la h g gc E U H) (c : CE la h gc xs) (r : RC1 la h g E) (F : Fr S h h') (h2 : ∀ a, own h a = te 2 → ¬ S a) (he : ∀ e, e ≤ 1 → ∀ a, own h a = te e → ¬ S a) (h35 : ∀ a, own h a = .ref 35 → ¬ S a) (h40 : ∀ m a, own h a = .ref (40 + m) → ¬ S a) : RC2 la h' g gc E U H := by
  obtain ⟨Hs, Us, z1, z2, z3, z4⟩ := z
  refine ⟨Hs, Us, (F.L (by have := c.2.2.2.2.1; omega) (h2 _ (c.2.2.2.2.2.2.2 2 (by decide)))).trans z1, z2.fr F h35 (fun m _ => h40 m), fun e h1 => ?_, z4⟩
  obtain ⟨y1, y2, y3, y4, y5⟩ := z3 e h1
  have es := (r e h1).1
  exact ⟨y1.fr F h35 (fun m _ => h40 m), (F.L (es.k 4) (he e h1 _ (es.o 4))).trans y2, by rw [F.C (es.k 4) (he e h1 _ (es.o 4))]; exact y3, (F.L (es.k 5) (he e h1 _ (es.o 5))).trans y4, by rw [F.C (es.k 5) (he e h1 _ (es.o 5))]; exact y5⟩
theorem RC3.fr {la : Nat → Nat} {h h' : AH} {gb : Nat → Nat} {L : List Nat} {S : Nat → Prop} (z : RC3 la h gb L) (F : Fr S h h') (hs : ∀ a, own h a = te 3 → ¬ S a) : RC3 la h' gb L := by
  obtain ⟨ys, c, z1, z2, z3, z4, z5⟩ := z
  exact ⟨ys, c, z1.fr F (hs _ z4) (hs _ z5), z2, z3, F.O (by rw [z1.1]; decide) z4, F.O (by rw [z1.2.2.1]; decide) z5⟩
theorem RC4.fr {h h' : AH} {gb : Nat → Nat} {S : Nat → Prop} (z : RC4 h gb) (F : Fr S h h') (hs : ∀ a, own h a = te 4 → ¬ S a) : RC4 h' gb := by
  obtain ⟨⟨z1, z2, z3, z4, z5, z6, z7, z8⟩, z9⟩ := z
  have s2 := hs _ (z9 2 (by decide) (by decide))
  have s3 := hs _ (z9 3 (by decide) (by decide))
  have s4 := hs _ (z9 4 (by decide) (by decide))
  refine ⟨⟨F.K z1 (by decide), F.F (by omega) s2 z2, F.F (by omega) s2 z3, F.K z4 (by decide), F.K z5 (by decide), by rw [F.I (by omega) s3]; exact z6, by rw [F.I (by omega) s4]; exact z7, z8⟩, fun i a b => F.O ?_ (z9 i a b)⟩
  rcases (show i = 2 ∨ i = 3 ∨ i = 4 by omega) with rfl | rfl | rfl <;> omega
theorem RC5.fr {la : Nat → Nat} {h h' : AH} {tb : Nat → Nat × Nat} {L : List Nat} {S : Nat → Prop} (z : RC5 la h tb L) (F : Fr S h h') (hs : ∀ a, own h a = .ref 30 → ¬ S a) : RC5 la h' tb L := ⟨fun x hx => ⟨(z.1 x hx).1.fr F (hs _ (z.1 x hx).2), F.O (by rw [(z.1 x hx).1.1]; decide) (z.1 x hx).2⟩, z.2⟩
/-- what is not the object's -/
def oth (h : AH) (a : Nat) : Prop := own h a = .ref 10 ∨ own h a = .ref 11
def FC (h h' : AH) : Prop := Fr (fun a => ¬ oth h a) h h'
theorem FC.refl (h : AH) : FC h h := Fr.refl _ h
theorem FC.seq {h h' h'' : AH} (a : FC h h') (b : FC h' h'') : FC h h'' := Fr.trans a b (fun _ _ z => z) (fun c hc z y => z (y.imp (fun y => Fr.O a hc y) (fun y => Fr.O a hc y)))
theorem FC.of {S : Nat → Prop} {h h' : AH} (F : Fr S h h') (x : ∀ a, qK h a ≠ 0 → S a → ¬ oth h a) : FC h h' := F.mono x
theorem te_oth {h : AH} {a e : Nat} (he : e ≤ 5) (z : own h a = te e) : ¬ oth h a := fun y => y.elim (fun y => ref_ne (a := 20 + e) (b := 10) (by omega) (z.symm.trans y)) (fun y => ref_ne (a := 20 + e) (b := 11) (by omega) (z.symm.trans y))
theorem tg_oth {h : AH} {a n : Nat} (hn : 12 ≤ n) (z : own h a = .ref n) : ¬ oth h a := fun y => y.elim (fun y => ref_ne (by omega) (z.symm.trans y)) (fun y => ref_ne (by omega) (z.symm.trans y))
/-- the rest of the world may move -/
theorem RC.fr {h h' : AH} {q : Nat} {G : GQ} {s : SQ} (z : RC h q G s) (F : Fr (oth h) h h') : RC h' q G s := by
  obtain ⟨z0, z1, zc, z2, z3, z4, z5⟩ := z
  have t : ∀ e, e ≤ 5 → ∀ a, own h a = te e → ¬ oth h a := fun e he a => te_oth he
  exact ⟨z0.fr F (t 5 (by decide)), z1.fr F (fun e he => t e (by omega)), zc.fr F (fun i hi => t 2 (by decide) _ (zc.2.2.2.2.2.2.2 i hi)), z2.fr zc z1 F (t 2 (by decide)) (fun e he => t e (by omega)) (fun a y => tg_oth (by decide) y) (fun m a y => tg_oth (by omega) y), z3.fr F (t 3 (by decide)), z4.fr F (t 4 (by decide)), z5.fr F (fun a y => tg_oth (by decide) y)⟩
