/-! IT GOES ON HOLDING: DELIVERIES -/
theorem app_at {H : List MG} {x m : MG} {j : Nat} (h : (H ++ [x])[j]? = some m) : (j < H.length ∧ H[j]? = some m) ∨ (j = H.length ∧ m = x) := by
  rcases Nat.lt_or_ge j H.length with u | u
  · rw [List.getElem?_append_left u] at h
    exact Or.inl ⟨u, h⟩
  · rw [List.getElem?_append_right u] at h
    have ej : j - H.length = 0 := by
      have := (List.getElem?_eq_some_iff.mp h).1
      simp at this
      omega
    rw [ej] at h
    simp at h
    exact Or.inr ⟨by omega, h.symm⟩
theorem noM.app {e : Nat} {H : List MG} {a : Nat} {x : MG} (h : noM e H a) (hx : x.1 ≠ e) : noM e (H ++ [x]) a := fun j m hj hm => by
  rcases app_at hm with ⟨-, u⟩ | ⟨-, u⟩
  · exact h j m hj u
  · rw [u]; exact hx
theorem take_app' {H : List MG} {x : MG} {a : Nat} (h : a ≤ H.length) : (H ++ [x]).take a = H.take a := List.take_append_of_le_length h
theorem INV.up' {s : SQ} (h : INV s) {e : Nat} (he : e ≤ 1) {m : MG} (hm : zU s e = [m]) : INV (sUp s e m) := by
  have hmm : m ∈ zU s e := by rw [hm]; exact List.mem_cons_self
  obtain ⟨-, -, m1, m2, m3, m4, m5, m6, m7, m8⟩ := h.1.enter he hmm
  obtain ⟨X, hX⟩ : ∃ X, X = entR m.2.2 ((zH s).drop m.2.1) := ⟨_, rfl⟩
  rw [← hX] at m3 m4 m5 m6
  have hXl : X.length = m.2.2.length := by rw [hX, entR_len]
  have hX0 : X ≠ [] := fun u => by
    rw [u] at hXl
    exact m7 (List.length_eq_zero_iff.mp hXl.symm)
  have eS' : sUp s e m = (s.1, zu s.2.1 e [], apS X (zC s), zH s ++ [(m.1, m.2.1, X)], s.2.2.2.2) := by rw [hX]; rfl
  have hrv := (h.1.1 e he).1
  have hH2 := h.ws.2.2.1.1
  rw [eS']
  refine ⟨⟨fun i hi => ?_, ⟨?_, ?_, fun a ha => ?_⟩, ?_, h.1.2.2.2⟩, h.2⟩
  · show iEq i (zE s i) (zu s.2.1 e [] i) (zH s ++ [(m.1, m.2.1, X)]) (zL s) (zM s)
    obtain ⟨h1, h2, h3, h4, h5⟩ := h.1.1 i hi
    refine ⟨by rw [List.length_append]; omega, by rw [bT_app _ h1]; exact h2, h3, h4, ?_⟩
    by_cases ei : i = e
    · subst ei
      rw [zu_s]
      refine Or.inr (Or.inr ⟨rfl, fun u => ?_, (zH s).length, (m.1, m.2.1, X), h1, by rw [List.getElem?_append_right (Nat.le_refl _), Nat.sub_self]; rfl, m1, fun j m' hj hjk hm' => ?_, ?_⟩)
      · rw [u] at m6
        have : (entR [] ((zH s).drop (eR (zE s i)))).length = 0 := by rw [entR_len]; rfl
        rw [m6] at this
        exact hX0 (List.length_eq_zero_iff.mp this)
      · rcases app_at hm' with ⟨-, u⟩ | ⟨u, -⟩
        · exact m8 j m' (by omega) u
        · exact absurd u hjk
      · rw [take_app' (Nat.le_refl _), List.take_length]; exact m6
    · rw [zu_n ei]
      have hne : m.1 ≠ i := fun u => ei (by rw [← u, m1])
      rcases h5 with ⟨a, b, c, d⟩ | ⟨m', a1, a2, a3, a4, a5, a6, a7, a8, a9⟩ | ⟨a1, a2, k, m', a3, a4, a5, a6, a7⟩
      · exact Or.inl ⟨a, b, c, d.app hne⟩
      · exact Or.inr (Or.inl ⟨m', a1, a2, a3, a4, by rw [bT_app _ (by omega)]; exact a5, a6, a7, a8.app hne, by rw [take_app' h1]; exact a9⟩)
      · have hk : k < (zH s).length := (List.getElem?_eq_some_iff.mp a4).1
        refine Or.inr (Or.inr ⟨a1, a2, k, m', a3, by rw [List.getElem?_append_left hk]; exact a4, a5, fun j m'' hj hjk hm' => ?_, by rw [take_app' (by omega)]; exact a7⟩)
        rcases app_at hm' with ⟨-, u⟩ | ⟨-, u⟩
        · exact a6 j m'' hj hjk u
        · rw [u]; exact hne
  · show vS (hop (zH s ++ [(m.1, m.2.1, X)])) []
    rw [hop_app, vS_app]
    refine ⟨h.1.2.1.1, ?_⟩
    show vS (X ++ []) _
    rw [List.append_nil]; exact m3
  · show apS X (zC s) = apS (hop (zH s ++ [(m.1, m.2.1, X)])) []
    rw [hop_app, apS_app, ← h.1.2.1.2.1]
    show apS X (zC s) = apS (X ++ []) (zC s)
    rw [List.append_nil]
  · rcases List.mem_append.mp (show a ∈ zH s ++ [(m.1, m.2.1, X)] from ha) with u | u
    · exact h.1.2.1.2.2 a u
    · rw [List.mem_singleton.mp u]
      exact ⟨by show m.1 ≤ 1; omega, by show m.2.1 ≤ 200; omega, hX0, by rw [show (m.1, m.2.1, X).1 = e from m1]; exact m4, m5⟩
  · have a := h.1.2.2.1
    unfold cnt at a
    show (hop (zH s ++ [(m.1, m.2.1, X)])).length + ((hop (zu s.2.1 e [] 0)).length + (eW (zE s 0)).length) + ((hop (zu s.2.1 e [] 1)).length + (eW (zE s 1)).length) ≤ zM s
    have e1 : (hop (zH s ++ [(m.1, m.2.1, X)])).length = (hop (zH s)).length + m.2.2.length := by
      rw [hop_app, List.length_append]
      show _ + (X ++ []).length = _
      rw [List.append_nil, hXl]
    have e2 : (hop (zU s e)).length = m.2.2.length := by rw [hm]; show (m.2.2 ++ []).length = _; rw [List.append_nil]
    have e3 : (hop ([] : List MG)).length = 0 := rfl
    rw [e1]
    rcases (show e = 0 ∨ e = 1 by omega) with rfl | rfl
    · rw [zu_s, zu_n (by decide), e3]
      show _ + _ + ((hop (zU s 1)).length + _) ≤ _
      omega
    · rw [zu_s, zu_n (by decide), e3]
      show _ + ((hop (zU s 0)).length + _) + _ ≤ _
      omega
theorem cO.rv {e : Nat} {x : EQ} {B L : List Nat} (h : cO e x B L) : cO e (rvs x) B L := h
/-- a message of the other end, some of it -/
theorem INV.sm {s : SQ} (h : INV s) {e : Nat} (he : e ≤ 1) {m : MG} (hm : (zH s)[eR (zE s e)]? = some m) (hne : m.1 ≠ e) (i : Nat) : cO e (fols (rvs (zE s e)) (m.2.2.take i)) (apS (m.2.2.take i) (bT (zH s) (eR (zE s e)))) (zL s) ∧ eS (fols (rvs (zE s e)) (m.2.2.take i)) = trl (eS (zE s e)) (m.2.2.take i) ∧ (eW (fols (rvs (zE s e)) (m.2.2.take i))).length = (eW (zE s e)).length ∧ (eK (fols (rvs (zE s e)) (m.2.2.take i))).length = (eK (zE s e)).length ∧ eR (fols (rvs (zE s e)) (m.2.2.take i)) = eR (zE s e) + 1 := by
  obtain ⟨m1, m2, m3, m4, m5⟩ := h.1.2.1.2.2 m (List.mem_of_getElem? hm)
  have v := vS_at h.1.2.1.1 hm
  rw [← List.take_append_drop i m.2.2, vS_app] at v
  exact fols_ok he m1 hne (m.2.2.take i) (rvs (zE s e)) (bT (zH s) (eR (zE s e))) (h.1.1 e he).2.1.rv v.1 (fun o ho => m4 o (List.mem_of_mem_take ho)) (fun o ho => m5 o (List.mem_of_mem_take ho))
/-- counting, with the next message -/
theorem cnt_n {s : SQ} (h : INV s) {e : Nat} (he : e ≤ 1) {m : MG} (hm : (zH s)[eR (zE s e)]? = some m) (hne : m.1 ≠ e) : (hop ((zH s).take (eR (zE s e)))).length + m.2.2.length + (eS (zE s e)).length + (eW (zE s e)).length ≤ 200 := by
  have c := cnt_s h.1 he
  have t := hop_two (Nat.le_refl _) hm
  obtain ⟨h1, h2, h3, h4, h5⟩ := h.1.1 e he
  rcases h5 with ⟨a, -⟩ | ⟨m', a1, a2, a3, a4, a5, a6, a7, a8, a9⟩ | ⟨a1, a2, k, m', a3, a4, a5, a6, a7⟩
  · rw [a]; simp only [List.length_nil]; omega
  · have e2 : (hop [m']).length = m'.2.2.length := by show (m'.2.2 ++ []).length = _; rw [List.append_nil]
    rw [a1, e2] at c
    rw [a9, entR_len]; omega
  · have hk : eR (zE s e) ≠ k := fun u => by
      rw [u] at hm
      rw [hm] at a4
      exact hne (by rw [Option.some.inj a4]; exact a5)
    have t2 := hop_two (a := eR (zE s e) + 1) (by omega) a4
    rw [hop_take hm, List.length_append] at t2
    have e2 : m'.2.2.length = (eS (zE s e)).length := by rw [← a7, entR_len]
    omega
theorem INV.dn {s : SQ} (h : INV s) : ∀ e, e ≤ 1 → ∀ m : MG, (zH s)[eR (zE s e)]? = some m → ∀ i, i ≤ m.2.2.length → (i = 0 ∨ ¬ m.1 = e) → WE (fun x => x ∈ zL s) (fols (rvs (zE s e)) (m.2.2.take i)) := fun e he m hm i hi hc => by
  have w := h.ws
  have hrl : eR (zE s e) < (zH s).length := (List.getElem?_eq_some_iff.mp hm).1
  have hH2 := w.2.2.1.1
  by_cases hne : m.1 = e
  · have i0 : i = 0 := hc.resolve_right (fun u => u hne)
    subst i0
    have we := (w.1 e he).1
    rw [List.take_zero]
    obtain ⟨a, b, c, d, e1, e2, e3⟩ := we
    exact ⟨a, b, c, d, e1, e2, by show eR (zE s e) + 1 < _; omega⟩
  · obtain ⟨c1, c2, c3, c4, c5⟩ := h.sm he hm hne i
    have cn := cnt_n h he hm hne
    have hK := (w.1 e he).1.2.2.2.1.1
    have bl := bT_len (zH s) (eR (zE s e))
    have al := apS_len (m.2.2.take i) (bT (zH s) (eR (zE s e)))
    rw [List.length_take] at al
    refine cO_we c1 he (fun y hy => ?_) (by rw [c2, c3, trl_len]; omega) (by rw [c4]; exact hK) (by rw [c5]; omega)
    rcases apS_mem hy with u | ⟨o, ho, eo⟩
    · exact bT_L h.1.2.1 _ y u
    · rw [eo]
      exact (h.1.2.1.2.2 m (List.mem_of_getElem? hm)).2.2.2.2 o (List.mem_of_mem_take ho)
theorem rln_pos {W : List SO} (h : W ≠ []) : 0 < rln W := by
  cases W with
  | nil => exact absurd rfl h
  | cons a l => show 0 < 1 + rlf a l; omega
theorem INV.dn' {s : SQ} (h : INV s) {e : Nat} (he : e ≤ 1) {m : MG} (hm : (zH s)[eR (zE s e)]? = some m) : INV (sDn s e m) ∧ eR (zE (sDn s e m) e) = eR (zE s e) + 1 := by
  have hrl : eR (zE s e) < (zH s).length := (List.getElem?_eq_some_iff.mp hm).1
  obtain ⟨h1, h2, h3, h4, h5⟩ := h.1.1 e he
  obtain ⟨m1, m2, m3, m4, m5⟩ := h.1.2.1.2.2 m (List.mem_of_getElem? hm)
  have ezs : zE (sDn s e m) e = gte e m.1 m.2.2 (zE s e) := zu_s
  refine ⟨?_, by rw [ezs]; exact gte_rv _ _ _ _⟩
  by_cases hne : m.1 = e
  · -- the acknowledgement
    obtain ⟨k, m', a1, a2, a3, a4, a5, a6, a7⟩ : ∃ (k : Nat) (m' : MG), zU s e = [] ∧ eS (zE s e) ≠ [] ∧ eR (zE s e) ≤ k ∧ (zH s)[k]? = some m' ∧ m'.1 = e ∧ (∀ (j : Nat) (m'' : MG), eR (zE s e) ≤ j → j ≠ k → (zH s)[j]? = some m'' → m''.1 ≠ e) ∧ entR (eS (zE s e)) (((zH s).take k).drop (eR (zE s e))) = m'.2.2 := by
      rcases h5 with ⟨a, b, c, d⟩ | ⟨m', a1, a2, a3, a4, a5, a6, a7, a8, a9⟩ | ⟨a1, a2, k, m', a3⟩
      · exact absurd hne (d _ m (Nat.le_refl _) hm)
      · exact absurd hne (a8 _ m a3 hm)
      · exact ⟨k, m', a1, a2, a3⟩
    have ek : k = eR (zE s e) := by
      rcases Nat.eq_or_lt_of_le a3 with u | u
      · exact u.symm
      · exact absurd hne (a6 _ m (Nat.le_refl _) (by omega) hm)
    subst ek
    rw [hm] at a4
    have em : m = m' := Option.some.inj a4
    rw [List.drop_eq_nil_of_le (by rw [List.length_take]; omega)] at a7
    have eSm : eS (zE s e) = m.2.2 := by rw [em]; exact a7
    obtain ⟨c1, c2, c3, c4, c5, c6, c7⟩ := h2
    obtain ⟨v1, v2⟩ := (vS_app _ _ _).mp c1
    have eB : bT (zH s) (eR (zE s e) + 1) = apS (eS (zE s e)) (bT (zH s) (eR (zE s e))) := by rw [bT_succ hm, eSm]
    have eg : gte e m.1 m.2.2 (zE s e) = sru (rvs (zE s e)) := by unfold gte; rw [if_pos hne]
    have eQ : dnQ s e m = (eW (zE s e)).take (rln (eW (zE s e))) := by unfold dnQ; rw [if_pos hne]
    have cS : eS (sru (rvs (zE s e))) ++ eW (sru (rvs (zE s e))) = eW (zE s e) := List.take_append_drop _ _
    have core : cO e (sru (rvs (zE s e))) (bT (zH s) (eR (zE s e) + 1)) (zL s) := by
      refine ⟨by rw [cS, eB]; exact v2, ?_, fun o ho => ?_, fun o ho => ?_, c5, c6, c7⟩
      · rw [cS, eB, ← apS_app]; exact c2
      · rw [cS] at ho; exact c3 o (List.mem_append_right _ ho)
      · rw [cS] at ho; exact c4 o (List.mem_append_right _ ho)
    have hno : noM e (zH s) (eR (zE s e) + 1) := fun j m'' hj hm'' => a6 j m'' (by omega) (by omega) hm''
    refine ⟨h.1.end' (s' := sDn s e m) he ezs (fun i hi => zE_n _ _ hi) (zU_s _ _ _) (fun i hi => zU_n _ _ hi) rfl rfl (fun _ y => y) (Nat.le_refl _) h.1.2.2.2 ⟨?_, ?_, ?_, ?_, ?_⟩ ?_, h.2⟩
    · rw [eg]; show eR (zE s e) + 1 ≤ _; omega
    · rw [eg]; exact core
    · rw [eg]; exact fun o ho => h3 o (List.mem_of_mem_drop ho)
    · rw [eg]; exact h4
    · rw [eg, eQ, a1]
      by_cases hq : (eW (zE s e)).take (rln (eW (zE s e))) = []
      · rw [if_pos hq]
        have hW : eW (zE s e) = [] := by
          by_cases u : eW (zE s e) = []
          · exact u
          · have p := rln_pos u
            have := congrArg List.length hq
            rw [List.length_take] at this
            have l0 : (eW (zE s e)).length ≠ 0 := fun w => u (List.length_eq_zero_iff.mp w)
            simp only [List.length_nil] at this
            omega
        exact Or.inl ⟨hq, by show (eW (zE s e)).drop _ = []; rw [hW]; exact List.drop_nil, rfl, hno⟩
      · rw [if_neg hq]
        have vq : vS ((eW (zE s e)).take (rln (eW (zE s e)))) (bT (zH s) (eR (zE s e) + 1)) := by
          have := core.1
          rw [vS_app] at this
          exact this.1
        exact Or.inr (Or.inl ⟨(e, eR (zE s e) + 1, (eW (zE s e)).take (rln (eW (zE s e)))), rfl, rfl, Nat.le_refl _, hq, vq, fun o ho => c3 o (List.mem_append_right _ (List.mem_of_mem_take ho)), fun o ho => c4 o (List.mem_append_right _ (List.mem_of_mem_take ho)), hno, by
          show (eW (zE s e)).take _ = entR _ (((zH s).take (eR (zE s e) + 1)).drop (eR (zE s e) + 1))
          rw [List.drop_eq_nil_of_le (by rw [List.length_take]; omega)]
          rfl⟩)
    · rw [eg, eQ, a1, show zM (sDn s e m) = zM s from rfl]
      have l1 : (eW (sru (rvs (zE s e)))).length = (eW (zE s e)).length - rln (eW (zE s e)) := by
        show ((eW (zE s e)).drop (rln (eW (zE s e)))).length = _
        rw [List.length_drop]
      have l2 := rln_le (eW (zE s e))
      rw [l1]
      by_cases hq : (eW (zE s e)).take (rln (eW (zE s e))) = []
      · rw [if_pos hq]
        show 0 + _ + _ ≤ 0 + _ + _
        omega
      · rw [if_neg hq]
        show ((eW (zE s e)).take (rln (eW (zE s e))) ++ []).length + _ + _ ≤ 0 + _ + _
        rw [List.append_nil, List.length_take]
        omega
  · -- a message of the other end
    have all := h.sm he hm hne m.2.2.length
    rw [List.take_length] at all
    obtain ⟨c1, c2, c3, c4, c5⟩ := all
    rw [← bT_succ hm] at c1
    have eg : gte e m.1 m.2.2 (zE s e) = drn (fols (rvs (zE s e)) m.2.2) := by unfold gte; rw [if_neg hne]
    have eQ : dnQ s e m = [] := by unfold dnQ; rw [if_neg hne]
    have eS' : eS (drn (fols (rvs (zE s e)) m.2.2)) = trl (eS (zE s e)) m.2.2 := c2
    have eR' : eR (drn (fols (rvs (zE s e)) m.2.2)) = eR (zE s e) + 1 := c5
    refine ⟨h.1.end' (s' := sDn s e m) he ezs (fun i hi => zE_n _ _ hi) (zU_s _ _ _) (fun i hi => zU_n _ _ hi) rfl rfl (fun _ y => y) (Nat.le_refl _) h.1.2.2.2 ⟨?_, ?_, ?_, ?_, ?_⟩ ?_, h.2⟩
    · rw [eg, eR']; omega
    · rw [eg, eR']; exact drn_ok c1
    · rw [eg]
      intro o ho
      have := (List.mem_filter.mp (show o ∈ (eW (fols (rvs (zE s e)) m.2.2)).filter (fun o => o.1 ≠ 0) from ho)).2
      simpa using this
    · rw [eg]; show (eK (fols (rvs (zE s e)) m.2.2)).length ≤ _; rw [c4]; exact h4
    · rw [eg, eQ, if_pos rfl]
      rcases h5 with ⟨a, b, c, d⟩ | ⟨m', a1, a2, a3, a4, a5, a6, a7, a8, a9⟩ | ⟨a1, a2, k, m', a3, a4, a5, a6, a7⟩
      · refine Or.inl ⟨?_, ?_, c, ?_⟩
        · rw [eS', a]
          exact List.length_eq_zero_iff.mp (by rw [trl_len]; rfl)
        · show (eW (fols (rvs (zE s e)) m.2.2)).filter _ = []
          have : eW (fols (rvs (zE s e)) m.2.2) = [] := List.length_eq_zero_iff.mp (by rw [c3, b]; rfl)
          rw [this]; rfl
        · rw [eR']; exact fun j m'' hj hm'' => d j m'' (by omega) hm''
      · refine Or.inr (Or.inl ⟨m', a1, a2, by rw [eR']; omega, a4, a5, a6, a7, a8, ?_⟩)
        rw [eS', eR', a9, List.take_add_one, hm, List.drop_append_of_le_length (by rw [List.length_take]; omega), entR_app]
        rfl
      · have hk : eR (zE s e) ≠ k := fun u => by
          rw [u] at hm
          rw [hm] at a4
          exact hne (by rw [Option.some.inj a4]; exact a5)
        refine Or.inr (Or.inr ⟨a1, fun u => ?_, k, m', by rw [eR']; omega, a4, a5, fun j m'' hj hjk hm'' => a6 j m'' (by rw [eR'] at hj; omega) hjk hm'', ?_⟩)
        · rw [eS'] at u
          have : (trl (eS (zE s e)) m.2.2).length = 0 := by rw [u]; rfl
          rw [trl_len] at this
          exact a2 (List.length_eq_zero_iff.mp this)
        · rw [eS', eR', ← a7]
          have hkl : k < (zH s).length := (List.getElem?_eq_some_iff.mp a4).1
          have : ((zH s).take k).drop (eR (zE s e)) = m :: ((zH s).take k).drop (eR (zE s e) + 1) := drop_at (by rw [List.getElem?_take_of_lt (by omega)]; exact hm)
          rw [this]
          rfl
    · rw [eg, eQ, if_pos rfl, show zM (sDn s e m) = zM s from rfl]
      have : (eW (drn (fols (rvs (zE s e)) m.2.2))).length ≤ (eW (zE s e)).length := by
        rw [← c3]; exact List.length_filter_le _ _
      omega
