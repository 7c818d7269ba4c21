/-! WHAT ALWAYS HOLDS -/
def bT (H : List MG) (k : Nat) : List Nat := apS (hop (H.take k)) []
theorem bT_succ {H : List MG} {k : Nat} {m : MG} (h : H[k]? = some m) : bT H (k + 1) = apS m.2.2 (bT H k) := by
  unfold bT
  rw [hop_take h, apS_app]
theorem bT_app {H : List MG} {k : Nat} (m : MG) (h : k ≤ H.length) : bT (H ++ [m]) k = bT H k := by
  unfold bT
  rw [List.take_append_of_le_length h]
theorem bT_all (H : List MG) : bT H H.length = apS (hop H) [] := by unfold bT; rw [List.take_length]
theorem bT_drop (H : List MG) {a b : Nat} (h : a ≤ b) : bT H b = apS (hop ((H.take b).drop a)) (bT H a) := by
  unfold bT
  rw [← apS_app, ← hop_app]
  have : H.take a = (H.take b).take a := by rw [List.take_take, Nat.min_eq_left h]
  rw [this, List.take_append_drop]
theorem bT_len (H : List MG) (k : Nat) : (bT H k).length ≤ (hop (H.take k)).length := by
  have := apS_len (hop (H.take k)) []
  unfold bT
  simpa using this
theorem vS_at {H : List MG} {k : Nat} {m : MG} (v : vS (hop H) []) (h : H[k]? = some m) : vS m.2.2 (bT H k) := by
  have e : hop H = hop (H.take k) ++ (m.2.2 ++ hop (H.drop (k + 1))) := by
    have : H = H.take k ++ (m :: H.drop (k + 1)) := by rw [← drop_at h, List.take_append_drop]
    exact (congrArg hop this).trans (hop_app _ _)
  rw [e, vS_app, vS_app] at v
  exact v.2.1
theorem vS_from {H : List MG} (v : vS (hop H) []) (k : Nat) : vS (hop (H.drop k)) (bT H k) := by
  have e : hop H = hop (H.take k) ++ hop (H.drop k) := by rw [← hop_app, List.take_append_drop]
  rw [e, vS_app] at v
  exact v.2
theorem entR_app (O : List SO) (A B : List MG) : entR O (A ++ B) = entR (entR O A) B := List.foldl_append
theorem entR_ok {e : Nat} (he : e ≤ 1) : ∀ (Hs : List MG) (O : List SO) (B : List Nat), vS O B → vS (hop Hs) B → mkO e O → (∀ m ∈ Hs, m.1 ≠ e ∧ m.1 ≤ 1 ∧ mkO m.1 m.2.2) → vS (entR O Hs) (apS (hop Hs) B) ∧ mkO e (entR O Hs) ∧ ∀ o ∈ entR O Hs, ∃ a ∈ O, o.2.2 = a.2.2
  | [], O, B, hO, _, mO, _ => ⟨hO, mO, fun o ho => ⟨o, ho, rfl⟩⟩
  | m :: Hs, O, B, hO, hH, mO, hm => by
    obtain ⟨m1, m2, m3⟩ := hm m List.mem_cons_self
    have hH : vS (m.2.2 ++ hop Hs) B := hH
    rw [vS_app] at hH
    obtain ⟨p1, p2, p3⟩ := trl_ok m1.symm he m2 m.2.2 O B hO hH.1 mO m3
    obtain ⟨q1, q2, q3⟩ := entR_ok he Hs (trl O m.2.2) (apS m.2.2 B) p1 hH.2 p2 (fun a ha => hm a (List.mem_cons_of_mem _ ha))
    refine ⟨?_, q2, fun o ho => ?_⟩
    · show vS (entR (trl O m.2.2) Hs) (apS (m.2.2 ++ hop Hs) B)
      rw [apS_app]; exact q1
    · obtain ⟨a, ha, ea⟩ := q3 o ho
      obtain ⟨c, hc, ec⟩ := p3 a ha
      exact ⟨c, hc, ea.trans ec⟩
theorem hop_ge : ∀ {H : List MG}, (∀ m ∈ H, m.2.2 ≠ []) → H.length ≤ (hop H).length
  | [], _ => Nat.le_refl _
  | m :: H, h => by
    have a := hop_ge (H := H) (fun x hx => h x (List.mem_cons_of_mem _ hx))
    have b : m.2.2.length ≠ 0 := fun u => h m List.mem_cons_self (List.length_eq_zero_iff.mp u)
    show H.length + 1 ≤ (m.2.2 ++ hop H).length
    rw [List.length_append]; omega
/-- no message of e's from a on -/
def noM (e : Nat) (H : List MG) (a : Nat) : Prop := ∀ (j : Nat) (m : MG), a ≤ j → H[j]? = some m → m.1 ≠ e
def sti (e : Nat) (x : EQ) (u : List MG) (H : List MG) : Prop := eS x = [] ∧ eW x = [] ∧ u = [] ∧ noM e H (eR x)
def stu (e : Nat) (x : EQ) (u : List MG) (H : List MG) (L : List Nat) : Prop := ∃ m : MG, u = [m] ∧ m.1 = e ∧ m.2.1 ≤ eR x ∧ m.2.2 ≠ [] ∧ vS m.2.2 (bT H m.2.1) ∧ mkO e m.2.2 ∧ (∀ o ∈ m.2.2, o.2.2.1 ∈ L) ∧ noM e H m.2.1 ∧ eS x = entR m.2.2 ((H.take (eR x)).drop m.2.1)
def stn (e : Nat) (x : EQ) (u : List MG) (H : List MG) : Prop := u = [] ∧ eS x ≠ [] ∧ ∃ (k : Nat) (m : MG), eR x ≤ k ∧ H[k]? = some m ∧ m.1 = e ∧ (∀ (j : Nat) (m' : MG), eR x ≤ j → j ≠ k → H[j]? = some m' → m'.1 ≠ e) ∧ entR (eS x) ((H.take k).drop (eR x)) = m.2.2
def iEq (e : Nat) (x : EQ) (u : List MG) (H : List MG) (L : List Nat) (M : Nat) : Prop := eR x ≤ H.length ∧ cO e x (bT H (eR x)) L ∧ (∀ o ∈ eW x, o.1 ≠ 0) ∧ (eK x).length ≤ M ∧ (sti e x u H ∨ stu e x u H L ∨ stn e x u H)
def iHq (C : List Nat) (H : List MG) (L : List Nat) : Prop := vS (hop H) [] ∧ C = apS (hop H) [] ∧ ∀ m ∈ H, m.1 ≤ 1 ∧ m.2.1 ≤ 200 ∧ m.2.2 ≠ [] ∧ mkO m.1 m.2.2 ∧ ∀ o ∈ m.2.2, o.2.2.1 ∈ L
def cnt (s : SQ) : Nat := (hop (zH s)).length + ((hop (zU s 0)).length + (eW (zE s 0)).length) + ((hop (zU s 1)).length + (eW (zE s 1)).length)
def INV0 (s : SQ) : Prop := (∀ e, e ≤ 1 → iEq e (zE s e) (zU s e) (zH s) (zL s) (zM s)) ∧ iHq (zC s) (zH s) (zL s) ∧ cnt s ≤ zM s ∧ zM s ≤ 200
def INV (s : SQ) : Prop := INV0 s ∧ ∀ x ∈ zL s, x < zM s
theorem bT_L {H : List MG} {L C : List Nat} (h : iHq C H L) (k : Nat) : ∀ y ∈ bT H k, y ∈ L := fun y hy => by
  rcases apS_mem (show y ∈ apS (hop (H.take k)) [] from hy) with u | ⟨o, ho, eo⟩
  · exact absurd u List.not_mem_nil
  · obtain ⟨m, hm, hom⟩ := hop_mem ho
    rw [eo]; exact (h.2.2 m (List.mem_of_mem_take hm)).2.2.2.2 o hom
theorem hop_two {H : List MG} {a k : Nat} {m : MG} (ha : a ≤ k) (h : H[k]? = some m) : (hop (H.take a)).length + m.2.2.length ≤ (hop H).length := by
  have e := hop_take h
  have l1 := hop_takele H (k + 1)
  rw [e, List.length_append] at l1
  have l2 := hop_takele (H.take k) a
  rw [List.take_take, Nat.min_eq_left ha] at l2
  omega
theorem cnt_e {e : Nat} {x : EQ} {u H : List MG} {L : List Nat} {M : Nat} (h : iEq e x u H L M) : (hop (H.take (eR x))).length + (eS x).length ≤ (hop H).length + (hop u).length := by
  obtain ⟨h1, h2, h3, h4, h5⟩ := h
  have hl := hop_takele H (eR x)
  rcases h5 with ⟨a, -⟩ | ⟨m, a1, a2, a3, a4, a5, a6, a7, a8, a9⟩ | ⟨a1, a2, k, m, a3, a4, a5, a6, a7⟩
  · rw [a]; simp only [List.length_nil]; omega
  · rw [a9, entR_len, a1]
    show _ ≤ (hop H).length + (m.2.2 ++ []).length
    rw [List.append_nil]; omega
  · have := hop_two a3 a4
    have e2 : m.2.2.length = (eS x).length := by rw [← a7, entR_len]
    omega
theorem cnt_s {s : SQ} (h : INV0 s) {e : Nat} (he : e ≤ 1) : (hop (zH s)).length + (hop (zU s e)).length + (eW (zE s e)).length ≤ 200 := by
  have a := h.2.2.1
  have b := h.2.2.2
  unfold cnt at a
  rcases (show e = 0 ∨ e = 1 by omega) with rfl | rfl <;> omega
theorem INV0.we {s : SQ} (h : INV0 s) {e : Nat} (he : e ≤ 1) : WE (fun y => y ∈ zL s) (zE s e) := by
  have hi := h.1 e he
  have c1 := cnt_e hi
  have c2 := cnt_s h he
  have c3 := bT_len (zH s) (eR (zE s e))
  have c4 := hop_ge (fun m hm => (h.2.1.2.2 m hm).2.2.1)
  exact cO_we hi.2.1 he (bT_L h.2.1 _) (by omega) (Nat.le_trans hi.2.2.2.1 h.2.2.2) (by have := hi.1; omega)
theorem INV0.wm {s : SQ} (h : INV0 s) {m : MG} (hm : m ∈ zH s) : wM (fun y => y ∈ zL s) m := by
  obtain ⟨m1, m2, m3, m4, m5⟩ := h.2.1.2.2 m hm
  obtain ⟨k, hk⟩ := List.mem_iff_getElem?.mp hm
  have v := vS_at h.2.1.1 hk
  have l := hop_two (Nat.le_refl k) hk
  have c2 := cnt_s h (e := 0) (by decide)
  have c3 := bT_len (zH s) k
  refine ⟨m1, m2, by omega, fun o ho => ?_⟩
  have a := vS_len v o ho
  exact ⟨a.1, by omega, by rw [m4 o ho]; exact m1, m5 o ho⟩
theorem INV0.wu {s : SQ} (h : INV0 s) {e : Nat} (he : e ≤ 1) : (zU s e).length ≤ 1 ∧ ∀ m ∈ zU s e, wM (fun y => y ∈ zL s) m := by
  obtain ⟨h1, h2, h3, h4, h5⟩ := h.1 e he
  have c2 := cnt_s h he
  have c4 := hop_ge (fun m hm => (h.2.1.2.2 m hm).2.2.1)
  rcases h5 with ⟨a, b, c, d⟩ | ⟨m, a1, a2, a3, a4, a5, a6, a7, a8, a9⟩ | ⟨a1, -⟩
  · rw [c]; exact ⟨by decide, fun m hm => absurd hm List.not_mem_nil⟩
  · rw [a1] at c2 ⊢
    have e2 : (hop [m]).length = m.2.2.length := by show (m.2.2 ++ []).length = _; rw [List.append_nil]
    refine ⟨Nat.le_refl _, fun m' hm' => ?_⟩
    rw [List.mem_singleton.mp hm']
    refine ⟨by omega, by omega, by omega, fun o ho => ?_⟩
    have a := vS_len a5 o ho
    have b := bT_len (zH s) m.2.1
    have b2 := hop_takele (zH s) m.2.1
    exact ⟨a.1, by omega, by rw [a6 o ho]; exact he, a7 o ho⟩
  · rw [a1]; exact ⟨by decide, fun m hm => absurd hm List.not_mem_nil⟩
theorem INV.ws {s : SQ} (h : INV s) : WS' s := by
  obtain ⟨h0, hL⟩ := h
  have c2 := cnt_s h0 (e := 0) (by decide)
  have c4 := hop_ge (fun m hm => (h0.2.1.2.2 m hm).2.2.1)
  refine ⟨fun e he => ⟨h0.we he, (h0.wu he).1, (h0.wu he).2, (h0.1 e he).1⟩, ⟨?_, ?_⟩, ⟨by omega, fun m hm => h0.wm hm⟩, h0.2.2.2, hL⟩
  · rw [h0.2.1.2.1]
    have := apS_len (hop (zH s)) []
    simp only [List.length_nil] at this
    omega
  · rw [h0.2.1.2.1, ← bT_all]; exact bT_L h0.2.1 _
theorem INV.cu {s : SQ} (h : INV s) : ∀ e, e ≤ 1 → eC (zE s e) ≤ (eX (zE s e)).length := fun e he => (h.1.1 e he).2.1.2.2.2.2.1
theorem INV.hH {s : SQ} (h : INV s) : (hop (zH s)).length ≤ 200 := by have := cnt_s h.1 (e := 0) (by decide); omega
theorem INV.ht {s : SQ} (h : INV s) : ∀ e, e ≤ 1 → (hop ((zH s).take (eR (zE s e)))).length + (eS (zE s e)).length + (eW (zE s e)).length ≤ 200 := fun e he => by
  have := cnt_e (h.1.1 e he)
  have := cnt_s h.1 he
  omega
theorem INV.hx {s : SQ} (h : INV s) : ∀ e, e ≤ 1 → apS (hop ((zH s).take (eR (zE s e))) ++ eS (zE s e) ++ eW (zE s e)) [] = eX (zE s e) := fun e he => by
  rw [(h.1.1 e he).2.1.2.1, List.append_assoc, apS_app]; rfl
theorem drop_mem {H : List MG} {a : Nat} {m : MG} (h : m ∈ H.drop a) : ∃ j, a ≤ j ∧ H[j]? = some m := by
  obtain ⟨j, hj⟩ := List.mem_iff_getElem?.mp h
  rw [List.getElem?_drop] at hj
  exact ⟨a + j, by omega, hj⟩
/-- what enters -/
theorem INV0.enter {s : SQ} (h : INV0 s) {e : Nat} (he : e ≤ 1) {m : MG} (hm : m ∈ zU s e) : upOK s m ∧ zU s e = [m] ∧ m.1 = e ∧ m.2.1 ≤ eR (zE s e) ∧ vS (entR m.2.2 ((zH s).drop m.2.1)) (apS (hop (zH s)) []) ∧ mkO e (entR m.2.2 ((zH s).drop m.2.1)) ∧ (∀ o ∈ entR m.2.2 ((zH s).drop m.2.1), o.2.2.1 ∈ zL s) ∧ entR (eS (zE s e)) ((zH s).drop (eR (zE s e))) = entR m.2.2 ((zH s).drop m.2.1) ∧ m.2.2 ≠ [] ∧ noM e (zH s) m.2.1 := by
  obtain ⟨h1, h2, h3, h4, h5⟩ := h.1 e he
  have c2 := cnt_s h he
  rcases h5 with ⟨a, b, c, d⟩ | ⟨m', a1, a2, a3, a4, a5, a6, a7, a8, a9⟩ | ⟨a1, -⟩
  · rw [c] at hm; exact absurd hm List.not_mem_nil
  · rw [a1] at hm c2
    have em := List.mem_singleton.mp hm
    subst em
    have e2 : (hop [m]).length = m.2.2.length := by show (m.2.2 ++ []).length = _; rw [List.append_nil]
    have hfor : ∀ x ∈ (zH s).drop m.2.1, x.1 ≠ e ∧ x.1 ≤ 1 ∧ mkO x.1 x.2.2 := fun x hx => by
      obtain ⟨j, hj, hjx⟩ := drop_mem hx
      obtain ⟨b1, b2, b3, b4, b5⟩ := h.2.1.2.2 x (List.mem_of_getElem? hjx)
      exact ⟨a8 j x hj hjx, b1, b4⟩
    have hv := vS_from h.2.1.1 m.2.1
    have eb : apS (hop ((zH s).drop m.2.1)) (bT (zH s) m.2.1) = apS (hop (zH s)) [] := by
      unfold bT
      rw [← apS_app, ← hop_app, List.take_append_drop]
    obtain ⟨p1, p2, p3⟩ := entR_ok he ((zH s).drop m.2.1) m.2.2 (bT (zH s) m.2.1) a5 hv a6 hfor
    rw [eb] at p1
    have hlet : ∀ o ∈ entR m.2.2 ((zH s).drop m.2.1), o.2.2.1 ∈ zL s := fun o ho => by
      obtain ⟨a, ha, ea⟩ := p3 o ho
      rw [show o.2.2.1 = a.2.2.1 from congrArg Prod.fst ea]; exact a7 a ha
    have hC : (apS (hop (zH s)) []).length ≤ (hop (zH s)).length := by simpa using apS_len (hop (zH s)) []
    have hBl := bT_len (zH s) m.2.1
    have hdl : (((zH s).drop m.2.1).map (fun x => x.2.2.length)).sum ≤ 200 := by
      rw [← hop_len]
      have : hop (zH s) = hop ((zH s).take m.2.1) ++ hop ((zH s).drop m.2.1) := by rw [← hop_app, List.take_append_drop]
      have := congrArg List.length this
      rw [List.length_append] at this
      omega
    refine ⟨⟨by omega, by rw [h.2.1.2.1]; omega, hdl, fun i hi x hx j hj o ho => ?_, fun o ho => ?_⟩, a1, a2, a3, p1, p2, hlet, ?_, a4, a8⟩
    · -- part of the way
      have hxm : x ∈ (zH s).drop m.2.1 := List.mem_of_getElem? hx
      have split : (zH s).drop m.2.1 = ((zH s).drop m.2.1).take i ++ (x :: ((zH s).drop m.2.1).drop (i + 1)) := by rw [← drop_at hx, List.take_append_drop]
      have hv2 := hv
      rw [split, hop_app, vS_app] at hv2
      have hv3 : vS (x.2.2 ++ hop (((zH s).drop m.2.1).drop (i + 1))) (apS (hop (((zH s).drop m.2.1).take i)) (bT (zH s) m.2.1)) := hv2.2
      rw [vS_app] at hv3
      have hx3 := hv3.1
      rw [← List.take_append_drop j x.2.2, vS_app] at hx3
      obtain ⟨q1, q2, q3⟩ := entR_ok he (((zH s).drop m.2.1).take i ++ [(x.1, x.2.1, x.2.2.take j)]) m.2.2 (bT (zH s) m.2.1) a5 (by
        rw [hop_app, vS_app]
        refine ⟨hv2.1, ?_⟩
        show vS (x.2.2.take j ++ []) _
        rw [List.append_nil]; exact hx3.1) a6 (fun y hy => by
        rcases List.mem_append.mp hy with u | u
        · exact hfor y (List.mem_of_mem_take u)
        · rw [List.mem_singleton.mp u]
          obtain ⟨c1, c2, c3⟩ := hfor x hxm
          exact ⟨c1, c2, fun o ho => c3 o (List.mem_of_mem_take ho)⟩)
      rw [entR_app] at q1 q2 q3
      have ho' : o ∈ entR (entR m.2.2 (((zH s).drop m.2.1).take i)) [(x.1, x.2.1, x.2.2.take j)] := ho
      have hl := vS_len q1 o ho'
      have hlen : (entR (entR m.2.2 (((zH s).drop m.2.1).take i)) [(x.1, x.2.1, x.2.2.take j)]).length = m.2.2.length := by rw [entR_len, entR_len]
      have hbl : (apS (hop (((zH s).drop m.2.1).take i ++ [(x.1, x.2.1, x.2.2.take j)])) (bT (zH s) m.2.1)).length ≤ 600 := by
        have g1 := apS_len (hop (((zH s).drop m.2.1).take i ++ [(x.1, x.2.1, x.2.2.take j)])) (bT (zH s) m.2.1)
        have g2 : (hop (((zH s).drop m.2.1).take i ++ [(x.1, x.2.1, x.2.2.take j)])).length ≤ (hop (((zH s).drop m.2.1).take i)).length + x.2.2.length := by
          rw [hop_app, List.length_append]
          show _ + (x.2.2.take j ++ []).length ≤ _
          rw [List.append_nil, List.length_take]; omega
        have g3 := hop_takele ((zH s).drop m.2.1) i
        have g4 := hop_len ((zH s).drop m.2.1)
        have g5 := hop_two (Nat.zero_le _) hx
        have g6 := hop_takele (zH s) m.2.1
        simp only [List.take_zero] at g5
        have g7 : (hop ([] : List MG)).length = 0 := rfl
        omega
      obtain ⟨a, ha, ea⟩ := q3 o ho'
      exact ⟨hl.1, by rw [hlen] at hl; omega, by rw [q2 o ho']; exact he, by rw [show o.2.2.1 = a.2.2.1 from congrArg Prod.fst ea]; exact a7 a ha⟩
    · have hl := vS_len p1 o ho
      rw [entR_len] at hl
      exact ⟨hl.1, by omega, by rw [p2 o ho]; exact he, hlet o ho⟩
    · rw [a9, ← entR_app]
      have : (zH s).drop m.2.1 = ((zH s).take (eR (zE s e))).drop m.2.1 ++ (zH s).drop (eR (zE s e)) := by
        have e1 : (zH s).drop m.2.1 = ((zH s).take (eR (zE s e)) ++ (zH s).drop (eR (zE s e))).drop m.2.1 := by rw [List.take_append_drop]
        rw [e1, List.drop_append_of_le_length (by rw [List.length_take]; omega)]
      rw [← this]
  · rw [a1] at hm; exact absurd hm List.not_mem_nil
