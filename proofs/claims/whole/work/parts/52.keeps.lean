/-! IT GOES ON HOLDING -/
theorem iEq.mono {e : Nat} {x : EQ} {u H : List MG} {L L' : List Nat} {M M' : Nat} (h : iEq e x u H L M) (hL : ∀ y ∈ L, y ∈ L') (hM : M ≤ M') : iEq e x u H L' M' := by
  obtain ⟨h1, ⟨c1, c2, c3, c4, c5, c6, c7⟩, h3, h4, h5⟩ := h
  refine ⟨h1, ⟨c1, c2, c3, fun o ho => hL _ (c4 o ho), c5, c6, fun k hk => ?_⟩, h3, by omega, ?_⟩
  · obtain ⟨k1, k2, k3⟩ := c7 k hk
    exact ⟨k1, hL _ k2, k3⟩
  · rcases h5 with a | ⟨m, a1, a2, a3, a4, a5, a6, a7, a8⟩ | a
    · exact Or.inl a
    · exact Or.inr (Or.inl ⟨m, a1, a2, a3, a4, a5, a6, fun o ho => hL _ (a7 o ho), a8⟩)
    · exact Or.inr (Or.inr a)
theorem iHq.mono {C : List Nat} {H : List MG} {L L' : List Nat} (h : iHq C H L) (hL : ∀ y ∈ L, y ∈ L') : iHq C H L' := ⟨h.1, h.2.1, fun m hm => by
  obtain ⟨a, b, c, d, e⟩ := h.2.2 m hm
  exact ⟨a, b, c, d, fun o ho => hL _ (e o ho)⟩⟩
theorem INV_0 : INV z0S := by
  refine ⟨⟨fun e he => ⟨Nat.le_refl _, ⟨trivial, rfl, fun o ho => absurd ho List.not_mem_nil, fun o ho => absurd ho List.not_mem_nil, Nat.le_refl _, Nat.le_refl _, fun k hk => absurd hk List.not_mem_nil⟩, fun o ho => absurd ho List.not_mem_nil, Nat.le_refl _, Or.inl ⟨rfl, rfl, rfl, fun j m _ hm => ?_⟩⟩, ⟨trivial, rfl, fun m hm => absurd hm List.not_mem_nil⟩, Nat.le_refl _, by decide⟩, fun x hx => absurd hx List.not_mem_nil⟩
  have : ([] : List MG)[j]? = some m := hm
  simp at this
theorem zE_s (s : SQ) (e : Nat) (x : EQ) : zE (zsE s e x) e = x := zu_s
theorem zE_n (s : SQ) {e i : Nat} (x : EQ) (h : i ≠ e) : zE (zsE s e x) i = zE s i := zu_n h
theorem zU_s (s : SQ) (e : Nat) (u : List MG) : zU (zsU s e u) e = u := zu_s
theorem zU_n (s : SQ) {e i : Nat} (u : List MG) (h : i ≠ e) : zU (zsU s e u) i = zU s i := zu_n h
/-- one end and what is up from it change, operations and letters grow -/
theorem INV0.end' {s s' : SQ} (h : INV0 s) {e : Nat} (he : e ≤ 1) {x' : EQ} {u' : List MG} (hE : zE s' e = x') (hEn : ∀ i, i ≠ e → zE s' i = zE s i) (hU : zU s' e = u') (hUn : ∀ i, i ≠ e → zU s' i = zU s i) (hC : zC s' = zC s) (hH : zH s' = zH s) (hL : ∀ y ∈ zL s, y ∈ zL s') (hM : zM s ≤ zM s') (hM2 : zM s' ≤ 200) (hx : iEq e x' u' (zH s) (zL s') (zM s')) (hc : (hop u').length + (eW x').length + zM s ≤ (hop (zU s e)).length + (eW (zE s e)).length + zM s') : INV0 s' := by
  refine ⟨fun i hi => ?_, by rw [hC, hH]; exact h.2.1.mono hL, ?_, hM2⟩
  · rw [hH]
    by_cases ei : i = e
    · subst ei; rw [hE, hU]; exact hx
    · rw [hEn i ei, hUn i ei]; exact (h.1 i hi).mono hL hM
  · have a := h.2.2.1
    unfold cnt at a ⊢
    rw [hH]
    rcases (show e = 0 ∨ e = 1 by omega) with rfl | rfl
    · rw [hE, hU, hEn 1 (by decide), hUn 1 (by decide)]; omega
    · rw [hE, hU, hEn 0 (by decide), hUn 0 (by decide)]; omega
/-- the state of the messages hangs only on what was sent, what waits and the revision -/
theorem st_same {e : Nat} {x x' : EQ} {u H : List MG} {L : List Nat} (h : sti e x u H ∨ stu e x u H L ∨ stn e x u H) (h1 : eS x' = eS x) (h2 : eW x' = eW x) (h3 : eR x' = eR x) : sti e x' u H ∨ stu e x' u H L ∨ stn e x' u H := by
  unfold sti stu stn
  rw [h1, h2, h3]
  exact h
theorem INV0.cur {s : SQ} (h : INV0 s) {e i : Nat} (he : e ≤ 1) (hi : i ≤ (eX (zE s e)).length) : INV0 (sCur s e i) := by
  obtain ⟨h1, ⟨c1, c2, c3, c4, c5, c6, c7⟩, h3, h4, h5⟩ := h.1 e he
  refine h.end' (s' := sCur s e i) he (zE_s _ _ _) (fun i hi => zE_n _ _ hi) rfl (fun _ _ => rfl) rfl rfl (fun _ y => y) (Nat.le_refl _) h.2.2.2 ⟨h1, ⟨c1, c2, c3, c4, hi, c6, c7⟩, h3, h4, st_same h5 rfl rfl rfl⟩ (Nat.le_refl _)
theorem INV0.drp {s : SQ} (h : INV0 s) {e : Nat} (he : e ≤ 1) : INV0 (drpK s e) := by
  obtain ⟨h1, ⟨c1, c2, c3, c4, c5, c6, c7⟩, h3, h4, h5⟩ := h.1 e he
  refine h.end' (s' := drpK s e) he (zE_s _ _ _) (fun i hi => zE_n _ _ hi) rfl (fun _ _ => rfl) rfl rfl (fun _ y => y) (Nat.le_refl _) h.2.2.2 ⟨h1, ⟨c1, c2, c3, c4, c5, c6, fun k hk => c7 k (List.dropLast_subset _ hk)⟩, h3, ?_, st_same h5 rfl rfl rfl⟩ (Nat.le_refl _)
  show ((eK (zE s e)).dropLast).length ≤ zM s
  rw [List.length_dropLast]; omega
theorem INV0.let {s : SQ} (h : INV0 s) (c w : Nat) : INV0 (zsL s c w) := ⟨fun e he => (h.1 e he).mono (fun y hy => List.mem_cons_of_mem _ hy) (Nat.le_refl _), h.2.1.mono (fun y hy => List.mem_cons_of_mem _ hy), h.2.2.1, h.2.2.2⟩
/-- an end makes an operation -/
theorem mak_ok {e : Nat} {x : EQ} {u H : List MG} {L : List Nat} {M : Nat} {o : SO} (h : iEq e x u H L M) (ho : vO o (eX x).length) (h0 : o.1 ≠ 0) (hm : o.2.2.2 = e) (hl : o.2.2.1 ∈ L) : iEq e (mak x o) (if (if eS x = [] then [o] else []) = [] then u else u ++ [(e, eR x, if eS x = [] then [o] else [])]) H L (M + 1) ∧ (eK (mak x o)).length = (eK x).length := by
  obtain ⟨h1, ⟨c1, c2, c3, c4, c5, c6, c7⟩, h3, h4, h5⟩ := h
  have hb : bhd o ≤ (apO o (eX x)).length := bhd_le ho h0
  have hmv : mvp o (eMk x) ≤ (apO o (eX x)).length := mvp_le ho h0 c6
  have hk : ∀ k ∈ (eK x).map (mvk o), kOK (apO o (eX x)).length L k := fun k hk => by
    obtain ⟨k0, hk0, ek⟩ := List.mem_map.mp hk
    rw [← ek]; exact (c7 k0 hk0).mv ho h0
  have hkl : (eK (mak x o)).length = (eK x).length := List.length_map _
  by_cases es : eS x = []
  · have hid : sti e x u H := by
      rcases h5 with a | ⟨m, a1, a2, a3, a4, a5, a6, a7, a8, a9⟩ | ⟨a1, a2, -⟩
      · exact a
      · have : (entR m.2.2 ((H.take (eR x)).drop m.2.1)).length = 0 := by rw [← a9, es]; rfl
        rw [entR_len] at this
        exact absurd (List.length_eq_zero_iff.mp this) a4
      · exact absurd es a2
    obtain ⟨i1, i2, i3, i4⟩ := hid
    have eB : eX x = bT H (eR x) := by rw [c2, i1, i2]; rfl
    have sM : eS (mak x o) = [o] := if_pos es
    have wM' : eW (mak x o) = eW x := if_pos es
    rw [if_pos es, if_neg (by simp), i3]
    refine ⟨⟨h1, ⟨?_, ?_, ?_, ?_, hb, hmv, hk⟩, ?_, by rw [hkl]; omega, Or.inr (Or.inl ⟨(e, eR x, [o]), rfl, rfl, Nat.le_refl _, List.cons_ne_nil _ _, ⟨by rw [← eB]; exact ho, trivial⟩, fun a ha => by rw [List.mem_singleton.mp ha]; exact hm, fun a ha => by rw [List.mem_singleton.mp ha]; exact hl, i4, ?_⟩)⟩, hkl⟩
    · rw [sM, wM', i2]
      exact ⟨by show vO o (bT H (eR x)).length; rw [← eB]; exact ho, trivial⟩
    · rw [sM, wM', i2]
      show apO o (eX x) = apO o (bT H (eR x))
      rw [← eB]
    · rw [sM, wM', i2]
      exact fun a ha => by rw [List.mem_singleton.mp ha]; exact hm
    · rw [sM, wM', i2]
      exact fun a ha => by rw [List.mem_singleton.mp ha]; exact hl
    · rw [wM']; exact h3
    · rw [sM]
      show [o] = entR [o] ((H.take (eR x)).drop (eR x))
      rw [List.drop_eq_nil_of_le (by rw [List.length_take]; omega)]
      rfl
  · have sM : eS (mak x o) = eS x := if_neg es
    have wM' : eW (mak x o) = eW x ++ [o] := if_neg es
    have hB : vO o (apS (eS x ++ eW x) (bT H (eR x))).length := by rw [← c2]; exact ho
    rw [if_neg es, if_pos rfl]
    refine ⟨⟨h1, ⟨?_, ?_, ?_, ?_, hb, hmv, hk⟩, ?_, by rw [hkl]; omega, ?_⟩, hkl⟩
    · rw [sM, wM', ← List.append_assoc, vS_app]
      exact ⟨c1, hB, trivial⟩
    · rw [sM, wM', ← List.append_assoc, apS_app]
      show apO o (eX x) = apO o (apS (eS x ++ eW x) (bT H (eR x)))
      rw [← c2]
    · rw [sM, wM', ← List.append_assoc]
      exact fun a ha => (List.mem_append.mp ha).elim (c3 a) (fun u => by rw [List.mem_singleton.mp u]; exact hm)
    · rw [sM, wM', ← List.append_assoc]
      exact fun a ha => (List.mem_append.mp ha).elim (c4 a) (fun u => by rw [List.mem_singleton.mp u]; exact hl)
    · rw [wM']
      exact fun a ha => (List.mem_append.mp ha).elim (h3 a) (fun u => by rw [List.mem_singleton.mp u]; exact h0)
    · rcases h5 with a | a | a
      · exact absurd a.1 es
      · unfold stu at a ⊢
        rw [sM]
        exact Or.inr (Or.inl a)
      · unfold stn at a ⊢
        rw [sM]
        exact Or.inr (Or.inr a)
theorem INV0.doM {s : SQ} (h : INV0 s) {e : Nat} (he : e ≤ 1) {o : SO} (ho : vO o (eX (zE s e)).length) (h0 : o.1 ≠ 0) (hm : o.2.2.2 = e) (hl : o.2.2.1 ∈ zL s) (hM : zM s < 200) : INV0 (doM s e o) := by
  obtain ⟨m1, m2⟩ := mak_ok (h.1 e he) ho h0 hm hl
  refine h.end' (s' := zsM (zsU (zsE s e (mak (zE s e) o)) e (sdm s e (if eS (zE s e) = [] then [o] else []))) (zM s + 1)) he (zE_s _ _ _) (fun i hi => zE_n _ _ hi) (zU_s _ _ _) (fun i hi => zU_n _ _ hi) rfl rfl (fun _ y => y) (Nat.le_succ _) hM m1 ?_
  show (hop (sdm s e (if eS (zE s e) = [] then [o] else []))).length + (eW (mak (zE s e) o)).length + zM s ≤ (hop (zU s e)).length + (eW (zE s e)).length + (zM s + 1)
  unfold sdm
  by_cases es : eS (zE s e) = []
  · rw [if_pos es, if_neg (by simp), hop_app, List.length_append, show eW (mak (zE s e) o) = eW (zE s e) from if_pos es]
    show (hop (zU s e)).length + ([o] ++ hop []).length + _ + _ ≤ _
    simp [hop]
    omega
  · rw [if_neg es, if_pos rfl, show eW (mak (zE s e) o) = eW (zE s e) ++ [o] from if_neg es, List.length_append]
    simp
    omega
theorem doM_M (s : SQ) (e : Nat) (o : SO) : zM (doM s e o) = zM s + 1 := rfl
theorem doM_L (s : SQ) (e : Nat) (o : SO) : zL (doM s e o) = zL s := rfl
theorem doM_E (s : SQ) (e : Nat) (o : SO) : zE (doM s e o) e = mak (zE s e) o := zu_s
theorem INV0.addK {s : SQ} (h : INV0 s) {e : Nat} (he : e ≤ 1) {k : KO} (hk : kOK (eX (zE s e)).length (zL s) k) (hl : (eK (zE s e)).length + 1 ≤ zM s) : INV0 (addK s e k) := by
  obtain ⟨h1, ⟨c1, c2, c3, c4, c5, c6, c7⟩, h3, h4, h5⟩ := h.1 e he
  refine h.end' (s' := zsE s e (eP (zE s e) (eK (zE s e) ++ [k]))) he (zE_s _ _ _) (fun i hi => zE_n _ _ hi) rfl (fun _ _ => rfl) rfl rfl (fun _ y => y) (Nat.le_refl _) h.2.2.2 ⟨h1, ⟨c1, c2, c3, c4, c5, c6, fun k' hk' => ?_⟩, h3, ?_, st_same h5 rfl rfl rfl⟩ (Nat.le_refl _)
  · rcases List.mem_append.mp (show k' ∈ eK (zE s e) ++ [k] from hk') with u | u
    · exact c7 k' u
    · rw [List.mem_singleton.mp u]; exact hk
  · show (eK (zE s e) ++ [k]).length ≤ zM s
    rw [List.length_append]; exact hl
theorem INV.ins {s : SQ} (h : INV s) {e p c : Nat} (he : e ≤ 1) (hp : p ≤ (eX (zE s e)).length) (hM : zM s < 200) : INV (sIns s e p c) := by
  have hl := (h.ws.1 e he).1.1.1
  have hv : vO (1, p, zM s, e) (eX (zE (zsL s c e) e)).length := Or.inr (Or.inl ⟨rfl, hp⟩)
  have a := (h.1.let c e).doM (o := (1, p, zM s, e)) he hv (show (1 : Nat) ≠ 0 by decide) rfl List.mem_cons_self hM
  refine ⟨a.addK he ⟨show (1 : Nat) ≤ 1 by decide, List.mem_cons_self, fun u => absurd u (show ¬ (1 : Nat) = 0 by decide), fun _ => ?_⟩ ?_, fun x hx => ?_⟩
  · show p ≤ 200
    have : (eX (zE s e)).length ≤ 200 := hl
    omega
  · rw [doM_E, (mak_ok ((h.1.let c e).1 e he) hv (show (1 : Nat) ≠ 0 by decide) rfl List.mem_cons_self).2]
    exact Nat.succ_le_succ (h.1.1 e he).2.2.2.1
  · show x < zM s + 1
    rcases List.mem_cons.mp (show x ∈ zM s :: zL s from hx) with u | u
    · omega
    · have := h.2 x u; omega
theorem INV.del {s : SQ} (h : INV s) {e p y : Nat} (he : e ≤ 1) (hy : (eX (zE s e))[p]? = some y) (hM : zM s < 200) : INV (sDel s e p y) := by
  have hl := (h.ws.1 e he).1.1
  have hp : p < (eX (zE s e)).length := (List.getElem?_eq_some_iff.mp hy).1
  have hyL : y ∈ zL s := hl.2 y (List.mem_of_getElem? hy)
  have hv : vO (2, p, y, e) (eX (zE s e)).length := Or.inr (Or.inr ⟨rfl, hp⟩)
  have a := h.1.doM (o := (2, p, y, e)) he hv (show (2 : Nat) ≠ 0 by decide) rfl hyL hM
  refine ⟨a.addK he ⟨show (0 : Nat) ≤ 1 by decide, hyL, fun _ => ?_, fun u => absurd u (show ¬ (0 : Nat) = 1 by decide)⟩ ?_, fun x hx => ?_⟩
  · rw [doM_E]
    show p ≤ (apO (2, p, y, e) (eX (zE s e))).length
    rw [al_2 rfl hp]; omega
  · rw [doM_E, (mak_ok (h.1.1 e he) hv (show (2 : Nat) ≠ 0 by decide) rfl hyL).2]
    exact Nat.succ_le_succ (h.1.1 e he).2.2.2.1
  · have := h.2 x hx
    show x < zM s + 1
    omega
theorem INV.unI {s : SQ} (h : INV s) {e i y : Nat} (he : e ≤ 1) (hi : i < (eX (zE s e)).length) (hy : y ∈ zL s) (hM : zM s < 200) : INV (sUnI s e i y) := by
  have eX' : eX (zE (drpK s e) e) = eX (zE s e) := by rw [show zE (drpK s e) e = _ from zE_s _ _ _]; rfl
  refine ⟨(h.1.drp he).doM (o := (2, i, y, e)) he (by rw [eX']; exact Or.inr (Or.inr ⟨rfl, hi⟩)) (show (2 : Nat) ≠ 0 by decide) rfl hy hM, fun x hx => ?_⟩
  have := h.2 x hx
  show x < zM s + 1
  omega
theorem INV.unD {s : SQ} (h : INV s) {e p y : Nat} (he : e ≤ 1) (hp : p ≤ (eX (zE s e)).length) (hM : zM s < 200) : INV (sUnD s e p y) := by
  have eX' : eX (zE (drpK s e) e) = eX (zE s e) := by rw [show zE (drpK s e) e = _ from zE_s _ _ _]; rfl
  refine ⟨((h.1.drp he).let _ _).doM (o := (1, p, zM s, e)) he (by show vO (1, p, zM s, e) (eX (zE (drpK s e) e)).length; rw [eX']; exact Or.inr (Or.inl ⟨rfl, hp⟩)) (show (1 : Nat) ≠ 0 by decide) rfl List.mem_cons_self hM, fun x hx => ?_⟩
  show x < zM s + 1
  rcases List.mem_cons.mp (show x ∈ zM s :: zL s from hx) with u | u
  · omega
  · have := h.2 x u; omega
theorem INV.cur' {s : SQ} (h : INV s) {e i : Nat} (he : e ≤ 1) (hi : i ≤ (eX (zE s e)).length) : INV (sCur s e i) := ⟨h.1.cur he hi, h.2⟩
theorem INV.drp' {s : SQ} (h : INV s) {e : Nat} (he : e ≤ 1) : INV (drpK s e) := ⟨h.1.drp he, h.2⟩
