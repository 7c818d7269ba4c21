/-! DELIVERING ALL -/
def dwn (s : SQ) (e : Nat) : Nat := (zH s).length - eR (zE s e)
def mu (s : SQ) : Nat := 3 * ((eW (zE s 0)).length + (eW (zE s 1)).length) + 3 * ((zU s 0).length + (zU s 1).length) + dwn s 0 + dwn s 1
def dPh (s : SQ) (e : Nat) : Nat := 1330 * dwn s e + 104 * (hop ((zH s).drop (eR (zE s e)))).length
/-- room that may still be wanted -/
def Ph (s : SQ) : Nat := 4200 * (200 - zM s) + 4200 * ((eW (zE s 0)).length + (eW (zE s 1)).length) + 4100 * ((hop (zU s 0)).length + (hop (zU s 1)).length) + dPh s 0 + dPh s 1
def dOne (s : SQ) : Option SQ := match zU s 0 with
  | m :: _ => some (sUp s 0 m)
  | [] => match zU s 1 with
    | m :: _ => some (sUp s 1 m)
    | [] => match (zH s)[eR (zE s 0)]? with
      | some m => some (sDn s 0 m)
      | none => match (zH s)[eR (zE s 1)]? with
        | some m => some (sDn s 1 m)
        | none => none
def dRun : Nat → SQ → Nat × SQ
  | 0, s => (0, s)
  | n + 1, s => match dOne s with
    | none => (0, s)
    | some t => ((dRun n t).1 + 1, (dRun n t).2)
def dAll (s : SQ) : Nat × SQ := dRun (mu s) s
theorem up_mu {s : SQ} (h : INV s) {e : Nat} (he : e ≤ 1) {m : MG} (hm : zU s e = [m]) : mu (sUp s e m) + 1 ≤ mu s ∧ Ph (sUp s e m) + 1220 ≤ Ph s := by
  have hmm : m ∈ zU s e := by rw [hm]; exact List.mem_cons_self
  obtain ⟨-, -, m1, m2, m3, m4, m5, m6, m7, m8⟩ := h.1.enter he hmm
  have hn : 1 ≤ m.2.2.length := by
    rcases Nat.eq_zero_or_pos m.2.2.length with u | u
    · exact absurd (List.length_eq_zero_iff.mp u) m7
    · exact u
  have r0 := (h.1.1 0 (by decide)).1
  have r1 := (h.1.1 1 (by decide)).1
  have eH : zH (sUp s e m) = zH s ++ [(m.1, m.2.1, entR m.2.2 ((zH s).drop m.2.1))] := rfl
  have eE : ∀ i, zE (sUp s e m) i = zE s i := fun _ => rfl
  have eMM : zM (sUp s e m) = zM s := rfl
  have dw : ∀ i, eR (zE s i) ≤ (zH s).length → dwn (sUp s e m) i = dwn s i + 1 := fun i hi => by
    unfold dwn
    rw [eH, eE, List.length_append]
    simp only [List.length_cons, List.length_nil]
    omega
  have dp : ∀ i, eR (zE s i) ≤ (zH s).length → dPh (sUp s e m) i = dPh s i + 1330 + 104 * m.2.2.length := fun i hi => by
    unfold dPh
    rw [dw i hi, eH, eE, List.drop_append_of_le_length hi, hop_app, List.length_append]
    have : (hop [(m.1, m.2.1, entR m.2.2 ((zH s).drop m.2.1))]).length = m.2.2.length := by
      show (entR m.2.2 _ ++ []).length = _
      rw [List.append_nil, entR_len]
    rw [this]
    omega
  have u1 : zU (sUp s e m) e = [] := zu_s
  have u2 : ∀ i, i ≠ e → zU (sUp s e m) i = zU s i := fun i hi => zu_n hi
  have l1 : (zU s e).length = 1 := by rw [hm]; rfl
  have l2 : (hop (zU s e)).length = m.2.2.length := by rw [hm]; show (m.2.2 ++ []).length = _; rw [List.append_nil]
  have l3 : (hop ([] : List MG)).length = 0 := rfl
  unfold mu Ph
  rw [dw 0 r0, dw 1 r1, dp 0 r0, dp 1 r1, eE 0, eE 1, eMM]
  rcases (show e = 0 ∨ e = 1 by omega) with rfl | rfl
  · rw [u1, u2 1 (by decide), l3, List.length_nil]
    omega
  · rw [u1, u2 0 (by decide), l3, List.length_nil]
    omega
theorem dn_mu {s : SQ} (h : INV s) {e : Nat} (he : e ≤ 1) {m : MG} (hm : (zH s)[eR (zE s e)]? = some m) : mu (sDn s e m) + 1 ≤ mu s ∧ Ph (sDn s e m) + (1330 + 104 * m.2.2.length) ≤ Ph s := by
  have hrl : eR (zE s e) < (zH s).length := (List.getElem?_eq_some_iff.mp hm).1
  obtain ⟨-, hr⟩ := h.dn' he hm
  have eH : zH (sDn s e m) = zH s := rfl
  have eMM : zM (sDn s e m) = zM s := rfl
  have eE : ∀ i, i ≠ e → zE (sDn s e m) i = zE s i := fun i hi => zE_n _ _ hi
  have eU : ∀ i, i ≠ e → zU (sDn s e m) i = zU s i := fun i hi => zU_n _ _ hi
  have d1 : dwn (sDn s e m) e + 1 = dwn s e := by
    unfold dwn
    rw [eH, hr]; omega
  have hdr : (zH s).drop (eR (zE s e)) = m :: (zH s).drop (eR (zE s e) + 1) := drop_at hm
  have d2 : dPh (sDn s e m) e + 1330 + 104 * m.2.2.length = dPh s e := by
    unfold dPh
    rw [← d1, eH, hr, hdr]
    have : (hop (m :: (zH s).drop (eR (zE s e) + 1))).length = m.2.2.length + (hop ((zH s).drop (eR (zE s e) + 1))).length := by
      show (m.2.2 ++ _).length = _
      rw [List.length_append]
    rw [this]; omega
  have d3 : ∀ i, i ≠ e → dwn (sDn s e m) i = dwn s i ∧ dPh (sDn s e m) i = dPh s i := fun i hi => by
    unfold dPh dwn
    rw [eH, eE i hi]
    exact ⟨rfl, rfl⟩
  have key : 3 * (eW (zE (sDn s e m) e)).length + 3 * (zU (sDn s e m) e).length ≤ 3 * (eW (zE s e)).length + 3 * (zU s e).length ∧ 4200 * (eW (zE (sDn s e m) e)).length + 4100 * (hop (zU (sDn s e m) e)).length ≤ 4200 * (eW (zE s e)).length + 4100 * (hop (zU s e)).length := by
    have ezs : zE (sDn s e m) e = gte e m.1 m.2.2 (zE s e) := zu_s
    have eUs : zU (sDn s e m) e = (if dnQ s e m = [] then zU s e else zU s e ++ [(e, eR (zE s e) + 1, dnQ s e m)]) := zu_s
    rw [ezs, eUs]
    by_cases hne : m.1 = e
    · have eg : gte e m.1 m.2.2 (zE s e) = sru (rvs (zE s e)) := by unfold gte; rw [if_pos hne]
      have eQ : dnQ s e m = (eW (zE s e)).take (rln (eW (zE s e))) := by unfold dnQ; rw [if_pos hne]
      have l1 : (eW (sru (rvs (zE s e)))).length = (eW (zE s e)).length - rln (eW (zE s e)) := by
        show ((eW (zE s e)).drop (rln (eW (zE s e)))).length = _
        rw [List.length_drop]
      have l2 := rln_le (eW (zE s e))
      rw [eg, l1, eQ]
      by_cases hq : (eW (zE s e)).take (rln (eW (zE s e))) = []
      · rw [if_pos hq]; omega
      · rw [if_neg hq, hop_app, List.length_append, List.length_append]
        have e3 : (hop [(e, eR (zE s e) + 1, (eW (zE s e)).take (rln (eW (zE s e))))]).length = rln (eW (zE s e)) := by
          show ((eW (zE s e)).take _ ++ []).length = _
          rw [List.append_nil, List.length_take]; omega
        have p : 0 < rln (eW (zE s e)) := rln_pos (fun u => hq (by rw [u]; rfl))
        rw [e3]
        simp only [List.length_cons, List.length_nil]
        omega
    · have eg : gte e m.1 m.2.2 (zE s e) = drn (fols (rvs (zE s e)) m.2.2) := by unfold gte; rw [if_neg hne]
      have eQ : dnQ s e m = [] := by unfold dnQ; rw [if_neg hne]
      have all := (h.sm he hm hne m.2.2.length).2.2.1
      rw [List.take_length] at all
      have : (eW (drn (fols (rvs (zE s e)) m.2.2))).length ≤ (eW (zE s e)).length := by
        rw [← all]; exact List.length_filter_le _ _
      rw [eg, eQ, if_pos rfl]
      omega
  unfold mu Ph
  rw [eMM]
  rcases (show e = 0 ∨ e = 1 by omega) with rfl | rfl
  · obtain ⟨a, b⟩ := d3 1 (by decide)
    rw [a, b, eE 1 (by decide), eU 1 (by decide)]
    omega
  · obtain ⟨a, b⟩ := d3 0 (by decide)
    rw [a, b, eE 0 (by decide), eU 0 (by decide)]
    omega
theorem up_one {s : SQ} (h : INV s) {e : Nat} (he : e ≤ 1) {m : MG} {l : List MG} (hm : zU s e = m :: l) : zU s e = [m] := by
  have := (h.1.wu he).1
  rw [hm] at this ⊢
  have : l = [] := List.length_eq_zero_iff.mp (by simp only [List.length_cons] at this; omega)
  rw [this]
/-- one delivery: which -/
theorem dOne_w {s t : SQ} (h : INV s) (hd : dOne s = some t) : (∃ (e : Nat) (m : MG), e ≤ 1 ∧ zU s e = [m] ∧ t = sUp s e m) ∨ (∃ (e : Nat) (m : MG), e ≤ 1 ∧ (zH s)[eR (zE s e)]? = some m ∧ t = sDn s e m) := by
  unfold dOne at hd
  split at hd
  · next m l hm => exact Or.inl ⟨0, m, by decide, up_one h (by decide) hm, (Option.some.inj hd).symm⟩
  · split at hd
    · next m l hm => exact Or.inl ⟨1, m, by decide, up_one h (by decide) hm, (Option.some.inj hd).symm⟩
    · split at hd
      · next m hm => exact Or.inr ⟨0, m, by decide, hm, (Option.some.inj hd).symm⟩
      · split at hd
        · next m hm => exact Or.inr ⟨1, m, by decide, hm, (Option.some.inj hd).symm⟩
        · exact absurd hd (by simp)
theorem dOne_ok {s t : SQ} (h : INV s) (hd : dOne s = some t) : INV t ∧ mu t + 1 ≤ mu s ∧ Ph t ≤ Ph s := by
  rcases dOne_w h hd with ⟨e, m, he, hm, rfl⟩ | ⟨e, m, he, hm, rfl⟩
  · have := up_mu h he hm
    exact ⟨h.up' he hm, this.1, by omega⟩
  · have := dn_mu h he hm
    exact ⟨(h.dn' he hm).1, this.1, by omega⟩
theorem dRun_n {s : SQ} (hd : dOne s = none) : ∀ k, dRun k s = (0, s)
  | 0 => rfl
  | k + 1 => by
    show (match dOne s with | none => _ | some t => _) = _
    rw [hd]
theorem dRun_s {s t : SQ} (hd : dOne s = some t) (k : Nat) : dRun (k + 1) s = ((dRun k t).1 + 1, (dRun k t).2) := by
  show (match dOne s with | none => _ | some t => _) = _
  rw [hd]
theorem dRun_1 : ∀ (n : Nat) (s : SQ), INV s → mu s ≤ n → dRun (n + 1) s = dRun n s := by
  intro n
  induction n with
  | zero =>
    intro s h hn
    cases hd : dOne s with
    | none => rw [dRun_n hd, dRun_n hd]
    | some t => have := (dOne_ok h hd).2.1; omega
  | succ n ih =>
    intro s h hn
    cases hd : dOne s with
    | none => rw [dRun_n hd, dRun_n hd]
    | some t =>
      obtain ⟨ht, hm, hp⟩ := dOne_ok h hd
      rw [dRun_s hd, dRun_s hd, ih t ht (by omega)]
theorem dRun_2 {s : SQ} (h : INV s) : ∀ d : Nat, dRun (mu s + d) s = dAll s
  | 0 => rfl
  | d + 1 => (dRun_1 (mu s + d) s h (by omega)).trans (dRun_2 h d)
theorem dAll_n {s : SQ} (hd : dOne s = none) : dAll s = (0, s) := dRun_n hd _
theorem dAll_s {s t : SQ} (h : INV s) (hd : dOne s = some t) : dAll s = ((dAll t).1 + 1, (dAll t).2) := by
  obtain ⟨ht, hm, hp⟩ := dOne_ok h hd
  obtain ⟨k, hk⟩ : ∃ k, mu s = k + 1 := ⟨mu s - 1, by omega⟩
  have b : dRun k t = dAll t := by
    have := dRun_2 ht (k - mu t)
    rwa [show mu t + (k - mu t) = k by omega] at this
  show dRun (mu s) s = _
  rw [hk, dRun_s hd, b]
theorem dAll_ok : ∀ (n : Nat) (s : SQ), mu s ≤ n → INV s → INV (dAll s).2 ∧ dOne (dAll s).2 = none ∧ Ph (dAll s).2 ≤ Ph s ∧ (dAll s).1 ≤ mu s := by
  intro n
  induction n with
  | zero =>
    intro s hn h
    cases hd : dOne s with
    | none => rw [dAll_n hd]; exact ⟨h, hd, Nat.le_refl _, Nat.zero_le _⟩
    | some t => have := (dOne_ok h hd).2.1; omega
  | succ n ih =>
    intro s hn h
    cases hd : dOne s with
    | none => rw [dAll_n hd]; exact ⟨h, hd, Nat.le_refl _, Nat.zero_le _⟩
    | some t =>
      obtain ⟨ht, hm, hp⟩ := dOne_ok h hd
      obtain ⟨a, b, c, d⟩ := ih t (by omega) ht
      rw [dAll_s h hd]
      exact ⟨a, b, by show Ph (dAll t).2 ≤ _; omega, by show (dAll t).1 + 1 ≤ _; omega⟩
theorem mu_le {s : SQ} (h : INV s) : mu s ≤ 2000 := by
  have a := cnt_s h.1 (e := 0) (by decide)
  have b := cnt_s h.1 (e := 1) (by decide)
  have c := (h.1.wu (e := 0) (by decide)).1
  have d := (h.1.wu (e := 1) (by decide)).1
  have e := h.ws.2.2.1.1
  unfold mu dwn
  omega
