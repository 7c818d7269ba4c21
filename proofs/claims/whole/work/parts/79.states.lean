/-! THE MODEL: STATES AFTER WRITING -/
theorem doM_e (s : SQ) (e : Nat) (o : SO) : zE (doM s e o) e = mak (zE s e) o := by
  show zu s.1 e (mak (zE s e) o) e = _
  rw [zu_s]
theorem ins_mk (s : SQ) (e p c : Nat) : sIns s e p c = zsE (doM (zsL s c e) e (1, p, zM s, e)) e (mkK (zE s e) (1, p, zM s, e) true) := by
  unfold sIns addK
  rw [doM_e]
  rfl
theorem del_mk (s : SQ) (e p y : Nat) : sDel s e p y = zsE (doM s e (2, p, y, e)) e (mkK (zE s e) (2, p, y, e) true) := by
  unfold sDel addK
  rw [doM_e]
  rfl
theorem zsE_id {s : SQ} {e : Nat} {x : EQ} (h : zE s e = x) : zsE s e x = s := by
  obtain ⟨s1, s2⟩ := s
  have h : s1 e = x := h
  show (zu s1 e x, s2) = (s1, s2)
  have : zu s1 e x = s1 := by
    funext i
    by_cases y : i = e
    · subst y; rw [zu_s, h]
    · rw [zu_n y]
  rw [this]
theorem unI_mk (s : SQ) (e i y : Nat) : sUnI s e i y = zsE (doM (drpK s e) e (2, i, y, e)) e (mkK (zE (drpK s e) e) (2, i, y, e) false) := by
  unfold sUnI
  exact (zsE_id ((doM_e (drpK s e) e (2, i, y, e)).trans rfl)).symm
theorem unD_mk (s : SQ) (e p y : Nat) : sUnD s e p y = zsE (doM (zsL (drpK s e) (zT s y).1 e) e (1, p, zM s, e)) e (mkK (zE (drpK s e) e) (1, p, zM s, e) false) := by
  unfold sUnD
  exact (zsE_id ((doM_e (zsL (drpK s e) (zT s y).1 e) e (1, p, zM s, e)).trans rfl)).symm
