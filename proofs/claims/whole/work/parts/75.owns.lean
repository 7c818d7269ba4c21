/-! LETTERS' OWNERS: WRITING -/
theorem TOs.step {s t : SQ} (h : TOs s) (w : WS' s) {o : SO} (ho : oT (zT t) o) (hT : ∀ y, y < zM s → zT t y = zT s y) (hH : zH t = zH s) (hU : ∀ i, i ≤ 1 → ∀ m ∈ zU t i, m ∈ zU s i ∨ ∀ a ∈ m.2.2, a = o) (hE : ∀ i, i ≤ 1 → ∀ a ∈ eS (zE t i) ++ eW (zE t i), a ∈ eS (zE s i) ++ eW (zE s i) ∨ a = o) : TOs t := by
  have key : ∀ a : SO, oT (zT s) a → a.2.2.1 ∈ zL s → oT (zT t) a := fun a ha hl u => by
    rw [hT _ (w.2.2.2.2 _ hl)]; exact ha u
  have kM : ∀ m : MG, wM (fun x => x ∈ zL s) m → (∀ a ∈ m.2.2, oT (zT s) a) → ∀ a ∈ m.2.2, oT (zT t) a := fun m hm hk a ha => by
    have := hm.2.2.2 a ha
    unfold wO at this
    exact key a (hk a ha) this.2.2.2
  refine ⟨fun m hm => ?_, fun i hi => ⟨fun m hm => ?_, fun a ha => ?_⟩⟩
  · rw [hH] at hm
    exact kM m (w.2.2.1.2 m hm) (h.1 m hm)
  · rcases hU i hi m hm with u | u
    · exact kM m ((w.1 i hi).2.2.1 m u) ((h.2 i hi).1 m u)
    · intro a ha; rw [u a ha]; exact ho
  · rcases hE i hi a ha with u | u
    · refine key a ((h.2 i hi).2 a u) ?_
      rcases List.mem_append.mp u with v | v
      · exact ((w.1 i hi).1.2.1.2 a v).2.2.2
      · exact ((w.1 i hi).1.2.2.1.2 a v).2.2.2
    · rw [u]; exact ho
theorem mak_SW {x : EQ} {o a : SO} (h : a ∈ eS (mak x o) ++ eW (mak x o)) : a ∈ eS x ++ eW x ∨ a = o := by
  have e1 : eS (mak x o) = if eS x = [] then [o] else eS x := rfl
  have e2 : eW (mak x o) = if eS x = [] then eW x else eW x ++ [o] := rfl
  rw [e1, e2] at h
  by_cases y : eS x = []
  · rw [if_pos y, if_pos y] at h
    rcases List.mem_append.mp h with u | u
    · exact Or.inr (List.mem_singleton.mp u)
    · exact Or.inl (List.mem_append_right _ u)
  · rw [if_neg y, if_neg y] at h
    rcases List.mem_append.mp h with u | u
    · exact Or.inl (List.mem_append_left _ u)
    · rcases List.mem_append.mp u with v | v
      · exact Or.inl (List.mem_append_right _ v)
      · exact Or.inr (List.mem_singleton.mp v)
theorem doM_SW {s : SQ} {e i : Nat} {o a : SO} (h : a ∈ eS (zE (doM s e o) i) ++ eW (zE (doM s e o) i)) : a ∈ eS (zE s i) ++ eW (zE s i) ∨ a = o := by
  have e1 : zE (doM s e o) i = zu s.1 e (mak (zE s e) o) i := rfl
  rw [e1] at h
  by_cases y : i = e
  · subst y; rw [zu_s] at h; exact mak_SW h
  · rw [zu_n y] at h; exact Or.inl h
theorem doM_U {s : SQ} {e i : Nat} {o : SO} {m : MG} (h : m ∈ zU (doM s e o) i) : m ∈ zU s i ∨ ∀ a ∈ m.2.2, a = o := by
  have e1 : zU (doM s e o) i = zu s.2.1 e (sdm s e (if eS (zE s e) = [] then [o] else [])) i := rfl
  rw [e1] at h
  by_cases y : i = e
  · subst y
    rw [zu_s] at h
    obtain ⟨O, hO⟩ : ∃ O, O = (if eS (zE s i) = [] then [o] else []) := ⟨_, rfl⟩
    have hO2 : ∀ a ∈ O, a = o := fun a ha => by
      rw [hO] at ha
      split at ha
      · exact List.mem_singleton.mp ha
      · exact absurd ha List.not_mem_nil
    rw [← hO] at h
    unfold sdm at h
    by_cases hn : O = []
    · rw [if_pos hn] at h; exact Or.inl h
    · rw [if_neg hn] at h
      rcases List.mem_append.mp h with u | u
      · exact Or.inl u
      · exact Or.inr (fun a ha => hO2 a (by rw [List.mem_singleton.mp u] at ha; exact ha))
  · rw [zu_n y] at h; exact Or.inl h
theorem eP_zE {s : SQ} {e : Nat} {K : List KO} (i : Nat) : eS (zE (zsE s e (eP (zE s e) K)) i) = eS (zE s i) ∧ eW (zE (zsE s e (eP (zE s e) K)) i) = eW (zE s i) := by
  have e1 : zE (zsE s e (eP (zE s e) K)) i = zu s.1 e (eP (zE s e) K) i := rfl
  rw [e1]
  by_cases y : i = e
  · subst y; rw [zu_s]; exact ⟨rfl, rfl⟩
  · rw [zu_n y]; exact ⟨rfl, rfl⟩
theorem TOs.ins {s : SQ} (h : TOs s) (w : WS' s) {e p c : Nat} : TOs (sIns s e p c) := by
  refine h.step w (o := (1, p, zM s, e)) (fun _ => ?_) (fun y hy => ?_) rfl (fun i _ m hm => ?_) (fun i _ a ha => ?_)
  · show (zu (zT s) (zM s) (c, e) (zM s)).2 = e
    rw [zu_s]
  · show zu (zT s) (zM s) (c, e) y = _
    exact zu_n (by omega)
  · exact doM_U (s := zsL s c e) hm
  · unfold sIns addK at ha
    rw [(eP_zE i).1, (eP_zE i).2] at ha
    exact doM_SW (s := zsL s c e) ha
theorem TOs.del {s : SQ} (h : TOs s) (w : WS' s) {e p y : Nat} : TOs (sDel s e p y) := by
  refine h.step w (o := (2, p, y, e)) (fun u => absurd (show (2 : Nat) = 1 from u) (by decide)) (fun y hy => rfl) rfl (fun i _ m hm => ?_) (fun i _ a ha => ?_)
  · exact doM_U (s := s) hm
  · unfold sDel addK at ha
    rw [(eP_zE i).1, (eP_zE i).2] at ha
    exact doM_SW (s := s) ha
theorem TOs.unI {s : SQ} (h : TOs s) (w : WS' s) {e p y : Nat} : TOs (sUnI s e p y) := by
  refine h.step w (o := (2, p, y, e)) (fun u => absurd (show (2 : Nat) = 1 from u) (by decide)) (fun y hy => rfl) rfl (fun i _ m hm => ?_) (fun i _ a ha => ?_)
  · exact doM_U (s := drpK s e) hm
  · have := doM_SW (s := drpK s e) ha
    unfold drpK at this
    rw [(eP_zE i).1, (eP_zE i).2] at this
    exact this
theorem TOs.unD {s : SQ} (h : TOs s) (w : WS' s) {e p y : Nat} : TOs (sUnD s e p y) := by
  refine h.step w (o := (1, p, zM s, e)) (fun _ => ?_) (fun y2 hy => ?_) rfl (fun i _ m hm => ?_) (fun i _ a ha => ?_)
  · show (zu (zT s) (zM s) ((zT s y).1, e) (zM s)).2 = e
    rw [zu_s]
  · show zu (zT s) (zM s) ((zT s y).1, e) y2 = _
    exact zu_n (by omega)
  · exact doM_U (s := zsL (drpK s e) (zT s y).1 e) hm
  · have := doM_SW (s := zsL (drpK s e) (zT s y).1 e) ha
    have : a ∈ eS (zE (drpK s e) i) ++ eW (zE (drpK s e) i) ∨ a = (1, p, zM s, e) := this
    unfold drpK at this
    rw [(eP_zE i).1, (eP_zE i).2] at this
    exact this
theorem TOs.drp {s : SQ} (h : TOs s) {e : Nat} : TOs (drpK s e) := by
  refine ⟨h.1, fun i hi => ⟨(h.2 i hi).1, ?_⟩⟩
  unfold drpK
  rw [(eP_zE i).1, (eP_zE i).2]
  exact (h.2 i hi).2
theorem TOs_0 : TOs z0S := ⟨fun m hm => absurd hm List.not_mem_nil, fun i hi => ⟨fun m hm => absurd hm List.not_mem_nil, fun a ha => absurd ha List.not_mem_nil⟩⟩
