/-! THE MODEL: WHAT IS MADE -/
theorem RM.mk' {tb : Nat → Nat × Nat} {F F' : MS'} {s : SQ} {e : Nat} {o : SO} {f : Bool} (z : RM tb F s) (w : WS' s) (hH : (hop (zH s)).length ≤ 200) (he : e ≤ 1) (hu : eS (zE s e) = [] → zU s e = []) (re : RE tb F' e (mkK (zE s e) o f)) (h9 : F' 926 0 = nI (zM s + 1)) (k1 : eS (zE s e) ≠ [] → KE F F' (rgM e)) (k2 : eS (zE s e) = [] → KE F F' (fun a b => rgM e a b ∨ rgU e a b) ∧ F' 918 e = 1 ∧ F' 915 e = nI 1 ∧ F' 916 e = nI (eR (zE s e)) ∧ SLs tb F' (800 + 200 * e) [o]) : RM tb F' (zsE (doM s e o) e (mkK (zE s e) o f)) := by
  have kk : KE F F' (fun a b => rgM e a b ∨ rgU e a b) := by
    by_cases y : eS (zE s e) = []
    · exact (k2 y).1
    · exact fun a b h => k1 y a b (fun u => h (Or.inl u))
  obtain ⟨o1, o2, o3⟩ := z.oth w hH he kk (fun a b h => by
    rcases h with h | h
    · unfold rgM at h
      exact h.imp id Or.inr
    · exact Or.inr (Or.inl h))
  refine ⟨fun i hi => ?_, o2, o3, h9⟩
  have e1 : zE (zsE (doM s e o) e (mkK (zE s e) o f)) i = zu (zu s.1 e (mak (zE s e) o)) e (mkK (zE s e) o f) i := rfl
  have e2 : zU (zsE (doM s e o) e (mkK (zE s e) o f)) i = zu s.2.1 e (sdm s e (if eS (zE s e) = [] then [o] else [])) i := rfl
  rw [e1, e2]
  by_cases y : i = e
  · subst y
    rw [zu_s, zu_s]
    refine ⟨re, ?_⟩
    by_cases n : eS (zE s i) = []
    · rw [if_pos n]
      obtain ⟨-, c1, c2, c3, c4⟩ := k2 n
      have e3 : sdm s i [o] = [(i, eR (zE s i), [o])] := by unfold sdm; rw [if_neg (List.cons_ne_nil _ _), hu n]; rfl
      rw [e3]
      exact ⟨by rw [if_neg (List.cons_ne_nil _ _)]; exact c1, fun m hm => by
        rw [← (List.head_eq_of_cons_eq hm)]; exact ⟨c2, c3, c4⟩⟩
    · rw [if_neg n]
      have e3 : sdm s i [] = zU s i := by unfold sdm; rw [if_pos rfl]
      rw [e3]
      exact (z.1 i hi).2.ke (k1 n) (fun a b h => by unfold rgU at h; unfold rgM rgE; omega) (fun m hm => ((w.1 i hi).2.2.1 m hm).2.2.1)
  · rw [zu_n y, zu_n y, zu_n y]; exact o1 i hi y
