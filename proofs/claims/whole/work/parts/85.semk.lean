/-! THE CALLS ONE BY ONE: what holds behind them -/
theorem Ph_ins {s : SQ} {e p c : Nat} (he : e ≤ 1) (hM : zM s < 200) : Ph (sIns s e p c) ≤ Ph s := by
  have a : Ph (sIns s e p c) = Ph (doM (zsL s c e) e (1, p, zM s, e)) := Ph_zsE rfl rfl
  have b := Ph_doM (s := zsL s c e) (o := (1, p, zM s, e)) he hM
  have d : Ph (zsL s c e) = Ph s := Ph_same rfl rfl (fun _ => rfl) (fun _ => rfl) (fun _ => rfl)
  omega
theorem Ph_del {s : SQ} {e p y : Nat} (he : e ≤ 1) (hM : zM s < 200) : Ph (sDel s e p y) ≤ Ph s := by
  have a : Ph (sDel s e p y) = Ph (doM s e (2, p, y, e)) := Ph_zsE rfl rfl
  have b := Ph_doM (s := s) (o := (2, p, y, e)) he hM
  omega
theorem Ph_drp {s : SQ} {e : Nat} : Ph (drpK s e) = Ph s := Ph_zsE rfl rfl
theorem Ph_unI {s : SQ} {e i y : Nat} (he : e ≤ 1) (hM : zM s < 200) : Ph (sUnI s e i y) ≤ Ph s := by
  have b := Ph_doM (s := drpK s e) (o := (2, i, y, e)) he hM
  have d := Ph_drp (s := s) (e := e)
  show Ph (doM (drpK s e) e (2, i, y, e)) ≤ _
  omega
theorem Ph_unD {s : SQ} {e p y : Nat} (he : e ≤ 1) (hM : zM s < 200) : Ph (sUnD s e p y) ≤ Ph s := by
  have b := Ph_doM (s := zsL (drpK s e) (zT s y).1 e) (o := (1, p, zM s, e)) he hM
  have d := Ph_drp (s := s) (e := e)
  have d2 : Ph (zsL (drpK s e) (zT s y).1 e) = Ph (drpK s e) := Ph_same rfl rfl (fun _ => rfl) (fun _ => rfl) (fun _ => rfl)
  show Ph (doM (zsL (drpK s e) (zT s y).1 e) e (1, p, zM s, e)) ≤ _
  omega
theorem smG_K {s : SQ} (hI : INV s) (hT : TOs s) {f : Nat → Value} {x : Int32} : KR s (smG f x s) := KR_e hI hT (fun e he => KR.id hI hT 0 _ (by decide))
theorem smInsert_K {s : SQ} (hI : INV s) (hT : TOs s) {x p d : Int32} : KR s (smInsert x p d s) := KR_e hI hT (fun e he => by
  have hl : (eX (zE s e)).length ≤ 200 := (hI.ws.1 e he).1.1.1
  split
  · next h =>
    split
    · next h2 =>
      obtain ⟨i, hi, rfl⟩ := nI_of h.1.1
      have hil : i ≤ (eX (zE s e)).length := (nI_leI hi (by omega)).mp h.1.2
      rw [nI_clamp hi]
      exact ⟨hI.ins he hil h2.2, hT.ins hI.ws, Ph_ins he h2.2, Nat.zero_le _⟩
    · exact KR.id hI hT 3 _ (by decide)
  · exact KR.id hI hT 2 _ (by decide))
theorem smType_K {s : SQ} (hI : INV s) (hT : TOs s) {x d : Int32} : KR s (smType x d s) := KR_e hI hT (fun e he => by
  split
  · split
    · next h2 => exact ⟨hI.ins he (hI.cu e he) h2.2, hT.ins hI.ws, Ph_ins he h2.2, Nat.zero_le _⟩
    · exact KR.id hI hT 3 _ (by decide)
  · exact KR.id hI hT 2 _ (by decide))
theorem smDelete_K {s : SQ} (hI : INV s) (hT : TOs s) {x p : Int32} : KR s (smDelete x p s) := KR_e hI hT (fun e he => KR_p (fun i y hy => by
  split
  · next h2 => exact ⟨hI.del he hy h2, hT.del hI.ws, Ph_del he h2, Nat.zero_le _⟩
  · exact KR.id hI hT 3 _ (by decide)) (KR.id hI hT 2 _ (by decide)))
theorem smErase_K {s : SQ} (hI : INV s) (hT : TOs s) {x : Int32} : KR s (smErase x s) := KR_e hI hT (fun e he => by
  have hc := hI.cu e he
  split
  · exact KR.id hI hT 2 _ (by decide)
  · next h0 =>
    split
    · next h2 =>
      split
      · next y hy => exact ⟨hI.del he hy h2, hT.del hI.ws, Ph_del he h2, Nat.zero_le _⟩
      · next hy =>
        have := List.getElem?_eq_none_iff.mp hy
        omega
    · exact KR.id hI hT 3 _ (by decide))
theorem smMove_K {s : SQ} (hI : INV s) (hT : TOs s) {x p : Int32} : KR s (smMove x p s) := KR_e hI hT (fun e he => by
  have hl : (eX (zE s e)).length ≤ 200 := (hI.ws.1 e he).1.1.1
  split
  · next h =>
    obtain ⟨i, hi, rfl⟩ := nI_of h.1
    have hil : i ≤ (eX (zE s e)).length := (nI_leI hi (by omega)).mp h.2
    rw [nI_clamp hi]
    exact ⟨hI.cur' he hil, hT.cur, Nat.le_of_eq (Ph_zsE rfl rfl), Nat.zero_le _⟩
  · exact KR.id hI hT 2 _ (by decide))
theorem smUndo_K {s : SQ} (hI : INV s) (hT : TOs s) {x : Int32} : KR s (smUndo x s) := KR_e hI hT (fun e he => by
  split
  · exact KR.id hI hT 2 _ (by decide)
  · next k hk =>
    have km := List.mem_of_getElem? hk
    obtain ⟨k1, k2, k3, k4⟩ := (hI.1.1 e he).2.1.2.2.2.2.2.2 k km
    split
    · split
      · exact ⟨hI.drp' he, hT.drp, Nat.le_of_eq Ph_drp, Nat.zero_le _⟩
      · next i hf =>
        have hil := fnd_lt _ _ _ _ hf
        split
        · next h2 => exact ⟨hI.unI he (by omega) k2 h2, hT.unI hI.ws, Ph_unI he h2, Nat.zero_le _⟩
        · exact KR.id hI hT 3 _ (by decide)
    · next h1 =>
      split
      · next h2 => exact ⟨hI.unD he (k3 (by omega)) h2.2, hT.unD hI.ws, Ph_unD he h2.2, Nat.zero_le _⟩
      · exact KR.id hI hT 3 _ (by decide))
theorem smUp_K {s : SQ} (hI : INV s) (hT : TOs s) {x : Int32} : KR s (smUp x s) := KR_e hI hT (fun e he => by
  split
  · exact KR.id hI hT 2 _ (by decide)
  · next m l hm =>
    have hm1 := up_one hI he hm
    have := (up_mu hI he hm1).2
    exact ⟨hI.up' he hm1, hT.up hI he hm1, Nat.le_trans (Nat.le_add_right _ _) this, Nat.zero_le _⟩)
theorem smDown_K {s : SQ} (hI : INV s) (hT : TOs s) {x : Int32} : KR s (smDown x s) := KR_e hI hT (fun e he => by
  split
  · exact KR.id hI hT 2 _ (by decide)
  · next m hm =>
    have := (dn_mu hI he hm).2
    exact ⟨(hI.dn' he hm).1, hT.dn hI he hm, Nat.le_trans (Nat.le_add_right _ _) this, Nat.zero_le _⟩)
theorem smC_K {s : SQ} (hI : INV s) (hT : TOs s) {f : Nat → Value} {x p : Int32} : KR s (smC f x p s) := KR_e hI hT (fun e he => KR_p (fun i y hy => KR.id hI hT 0 _ (by decide)) (KR.id hI hT 2 _ (by decide)))
theorem smCC_K {s : SQ} (hI : INV s) (hT : TOs s) {p : Int32} : KR s (smCC p s) := KR_p (fun i y hy => KR.id hI hT 0 _ (by decide)) (KR.id hI hT 1 _ (by decide))
theorem smH_K {s : SQ} (hI : INV s) (hT : TOs s) {f : MG → Value} {p : Int32} : KR s (smH f p s) := KR_p (fun i y hy => KR.id hI hT 0 _ (by decide)) (KR.id hI hT 1 _ (by decide))
theorem smHo_K {s : SQ} (hI : INV s) (hT : TOs s) {f : SO → Value} {p r : Int32} : KR s (smHo f p r s) := KR_p (fun i y hy => KR_p (fun j o ho => KR.id hI hT 0 _ (by decide)) (KR.id hI hT 2 _ (by decide))) (KR.id hI hT 1 _ (by decide))
theorem smShare_K {s : SQ} (hI : INV s) (hT : TOs s) {x : Int32} : KR s (smShare x s) := KR_e hI hT (fun e he => by
  split
  · exact KR.id hI hT 2 _ (by decide)
  · exact KR.id hI hT 0 _ (by decide))
theorem smMean_K {s : SQ} (hI : INV s) (hT : TOs s) : KR s (smMean s) := by
  unfold smMean
  split
  · exact KR.id hI hT 1 _ (by decide)
  · exact KR.id hI hT 0 _ (by decide)
/-! their answers, by the case -/
theorem smG_0 {s : SQ} {e : Nat} (he : e ≤ 1) {f : Nat → Value} : smG f (nI e) s = (0, f e, s) := smE_e he
theorem smInsert_0 {s : SQ} {e : Nat} (he : e ≤ 1) {i c : Nat} (hl : (eX (zE s e)).length ≤ 200) (hi : i ≤ (eX (zE s e)).length) (h1 : 32 ≤ c) (h2 : c ≤ 126) (h3 : (eX (zE s e)).length < 60) (h4 : zM s < 200) : smInsert (nI e) (nI i) (nI c) s = (0, .int (nI (eX (zE (sIns s e i c) e)).length), sIns s e i c) := by
  unfold smInsert
  rw [smE_e he, if_pos ⟨dPL_i hi hl, dCH_c h1 h2⟩, if_pos ⟨h3, h4⟩, nI_clamp (by omega), nI_clamp (by omega)]
theorem smInsert_2 {s : SQ} {e : Nat} (he : e ≤ 1) {p d : Int32} (h : ¬ (dPL s e p ∧ dCH d)) : smInsert (nI e) p d s = (2, .null, s) := by
  unfold smInsert
  rw [smE_e he, if_neg h]
theorem smInsert_3 {s : SQ} {e : Nat} (he : e ≤ 1) {p d : Int32} (h1 : dPL s e p) (h2 : dCH d) (h3 : ¬ dRM s e) : smInsert (nI e) p d s = (3, .null, s) := by
  unfold smInsert
  rw [smE_e he, if_pos ⟨h1, h2⟩, if_neg h3]
theorem smType_0 {s : SQ} {e : Nat} (he : e ≤ 1) {c : Nat} (h1 : 32 ≤ c) (h2 : c ≤ 126) (h3 : (eX (zE s e)).length < 60) (h4 : zM s < 200) : smType (nI e) (nI c) s = (0, .int (nI (eC (zE (sIns s e (eC (zE s e)) c) e))), sIns s e (eC (zE s e)) c) := by
  unfold smType
  rw [smE_e he, if_pos (dCH_c h1 h2), if_pos ⟨h3, h4⟩, nI_clamp (by omega)]
theorem smType_2 {s : SQ} {e : Nat} (he : e ≤ 1) {d : Int32} (h : ¬ dCH d) : smType (nI e) d s = (2, .null, s) := by
  unfold smType
  rw [smE_e he, if_neg h]
theorem smType_3 {s : SQ} {e : Nat} (he : e ≤ 1) {d : Int32} (h2 : dCH d) (h3 : ¬ dRM s e) : smType (nI e) d s = (3, .null, s) := by
  unfold smType
  rw [smE_e he, if_pos h2, if_neg h3]
theorem smDelete_0 {s : SQ} {e : Nat} (he : e ≤ 1) {i y : Nat} (hl : (eX (zE s e)).length ≤ 200) (hy : (eX (zE s e))[i]? = some y) (hM : zM s < 200) : smDelete (nI e) (nI i) s = (0, .int (nI (zT s y).1), sDel s e i y) := by
  unfold smDelete
  rw [smE_e he, smP_i hy hl, if_pos hM]
theorem smDelete_2 {s : SQ} {e : Nat} (he : e ≤ 1) {p : Int32} (hl : (eX (zE s e)).length ≤ 200) (h : ¬ (¬ p < 0 ∧ p < nI (eX (zE s e)).length)) : smDelete (nI e) p s = (2, .null, s) := by
  unfold smDelete
  rw [smE_e he, smP_n h hl]
theorem smDelete_3 {s : SQ} {e : Nat} (he : e ≤ 1) {p : Int32} (hl : (eX (zE s e)).length ≤ 200) (h : ¬ p < 0 ∧ p < nI (eX (zE s e)).length) (hM : ¬ zM s < 200) : smDelete (nI e) p s = (3, .null, s) := by
  obtain ⟨i, y, rfl, hy⟩ := smP_y h hl
  unfold smDelete
  rw [smE_e he, smP_i hy hl, if_neg hM]
theorem smErase_0 {s : SQ} {e : Nat} (he : e ≤ 1) {y : Nat} (h0 : 0 < eC (zE s e)) (hy : (eX (zE s e))[eC (zE s e) - 1]? = some y) (hM : zM s < 200) : smErase (nI e) s = (0, .int (nI (zT s y).1), sDel s e (eC (zE s e) - 1) y) := by
  unfold smErase
  rw [smE_e he, if_neg (by omega), if_pos hM, hy]
theorem smErase_2 {s : SQ} {e : Nat} (he : e ≤ 1) (h0 : eC (zE s e) = 0) : smErase (nI e) s = (2, .null, s) := by
  unfold smErase
  rw [smE_e he, if_pos h0]
theorem smErase_3 {s : SQ} {e : Nat} (he : e ≤ 1) (h0 : 0 < eC (zE s e)) (hM : ¬ zM s < 200) : smErase (nI e) s = (3, .null, s) := by
  unfold smErase
  rw [smE_e he, if_neg (by omega), if_neg hM]
theorem smMove_0 {s : SQ} {e : Nat} (he : e ≤ 1) {i : Nat} (hl : (eX (zE s e)).length ≤ 200) (hi : i ≤ (eX (zE s e)).length) : smMove (nI e) (nI i) s = (0, .int (nI (eC (zE s e))), sCur s e i) := by
  unfold smMove
  rw [smE_e he, if_pos (dPL_i hi hl), nI_clamp (by omega)]
theorem smMove_2 {s : SQ} {e : Nat} (he : e ≤ 1) {p : Int32} (h : ¬ dPL s e p) : smMove (nI e) p s = (2, .null, s) := by
  unfold smMove
  rw [smE_e he, if_neg h]
theorem smUndo_k {s : SQ} {e : Nat} (he : e ≤ 1) {n : Nat} {k : KO} (hn : (eK (zE s e)).length = n + 1) (hk : (eK (zE s e))[n]? = some k) : smUndo (nI e) s = if k.1 = 1 then (match fnd (eX (zE s e)) k.2.1 0 with
    | none => (0, .int 0, drpK s e)
    | some i => if zM s < 200 then (0, .int 1, sUnI s e i k.2.1) else (3, .null, s)) else if dRM s e then (0, .int 1, sUnD s e k.2.2 k.2.1) else (3, .null, s) := by
  unfold smUndo
  rw [smE_e he, hn, Nat.add_sub_cancel, hk]
  rfl
theorem smUndo_2 {s : SQ} {e : Nat} (he : e ≤ 1) (h : eK (zE s e) = []) : smUndo (nI e) s = (2, .null, s) := by
  unfold smUndo
  rw [smE_e he, h]
  rfl
theorem smUp_0 {s : SQ} {e : Nat} (he : e ≤ 1) {m : MG} (hm : zU s e = [m]) : smUp (nI e) s = (0, .int (nI m.2.2.length), sUp s e m) := by
  unfold smUp
  rw [smE_e he, hm]
theorem smUp_2 {s : SQ} {e : Nat} (he : e ≤ 1) (hm : zU s e = []) : smUp (nI e) s = (2, .null, s) := by
  unfold smUp
  rw [smE_e he, hm]
theorem smDown_0 {s : SQ} {e : Nat} (he : e ≤ 1) {m : MG} (hm : (zH s)[eR (zE s e)]? = some m) : smDown (nI e) s = (0, .int (if m.1 = e then 97 else 111), sDn s e m) := by
  unfold smDown
  rw [smE_e he, hm]
theorem smDown_2 {s : SQ} {e : Nat} (he : e ≤ 1) (hm : (zH s).length ≤ eR (zE s e)) : smDown (nI e) s = (2, .null, s) := by
  unfold smDown
  rw [smE_e he, List.getElem?_eq_none hm]
theorem smC_0 {s : SQ} {e : Nat} (he : e ≤ 1) {f : Nat → Value} {i y : Nat} (hl : (eX (zE s e)).length ≤ 200) (hy : (eX (zE s e))[i]? = some y) : smC f (nI e) (nI i) s = (0, f y, s) := by
  unfold smC
  rw [smE_e he, smP_i hy hl]
theorem smC_2 {s : SQ} {e : Nat} (he : e ≤ 1) {f : Nat → Value} {p : Int32} (hl : (eX (zE s e)).length ≤ 200) (h : ¬ (¬ p < 0 ∧ p < nI (eX (zE s e)).length)) : smC f (nI e) p s = (2, .null, s) := by
  unfold smC
  rw [smE_e he, smP_n h hl]
theorem smShare_0 {s : SQ} {e : Nat} (he : e ≤ 1) (h : (eX (zE s e)).length ≠ 0) : smShare (nI e) s = (0, .float (FP.fdiv (FP.i2f (nI (cow (zT s) e (eX (zE s e))))) (FP.i2f (nI (eX (zE s e)).length))), s) := by
  unfold smShare
  rw [smE_e he, if_neg h]
theorem smShare_2 {s : SQ} {e : Nat} (he : e ≤ 1) (h : (eX (zE s e)).length = 0) : smShare (nI e) s = (2, .null, s) := by
  unfold smShare
  rw [smE_e he, if_pos h]
theorem smHo_0 {s : SQ} {f : SO → Value} {i j : Nat} {m : MG} {o : SO} (w : WS' s) (hm : (zH s)[i]? = some m) (ho : m.2.2[j]? = some o) : smHo f (nI i) (nI j) s = (0, f o, s) := by
  unfold smHo
  rw [smP_i hm w.2.2.1.1, smP_i ho (w.2.2.1.2 m (List.mem_of_getElem? hm)).2.2.1]
theorem smHo_2 {s : SQ} {f : SO → Value} {i : Nat} {r : Int32} {m : MG} (w : WS' s) (hm : (zH s)[i]? = some m) (h : ¬ (¬ r < 0 ∧ r < nI m.2.2.length)) : smHo f (nI i) r s = (2, .null, s) := by
  unfold smHo
  rw [smP_i hm w.2.2.1.1, smP_n h (w.2.2.1.2 m (List.mem_of_getElem? hm)).2.2.1]
theorem smMean_0 {s : SQ} (h : (zH s).length ≠ 0) : smMean s = (0, .double (FP.ddiv (FP.i2d (nI ((zH s).map (fun x => x.2.2.length)).sum)) (FP.i2d (nI (zH s).length))), s) := by
  unfold smMean
  rw [if_neg h]
theorem smMean_1 {s : SQ} (h : (zH s).length = 0) : smMean s = (1, .null, s) := by
  unfold smMean
  rw [if_pos h]
theorem vf32_no {x : UInt32} : vf_n32 x ↔ Jvm.FP.Core.fIsNaN x = false := by
  have e : vf_n32 x ↔ x.toNat % 2147483648 ≤ 2139095040 := by
    unfold vf_n32
    rw [UInt32.le_iff_toNat_le, UInt32.toNat_and, show (0x7fffffff : UInt32).toNat = 2 ^ 31 - 1 by decide, show (0x7f800000 : UInt32).toNat = 2139095040 by decide, Nat.and_two_pow_sub_one_eq_mod]
  rw [e, ← Bool.not_eq_true, Jvm.FP.Core.isNaN_bits32]
  omega
theorem vf64_no {x : UInt64} : vf_n64 x ↔ Jvm.FP.Core.dIsNaN x = false := by
  have e : vf_n64 x ↔ x.toNat % 9223372036854775808 ≤ 9218868437227405312 := by
    unfold vf_n64
    rw [UInt64.le_iff_toNat_le, UInt64.toNat_and, show (0x7fffffffffffffff : UInt64).toNat = 2 ^ 63 - 1 by decide, show (0x7ff0000000000000 : UInt64).toNat = 9218868437227405312 by decide, Nat.and_two_pow_sub_one_eq_mod]
  rw [e, ← Bool.not_eq_true, Jvm.FP.Core.isNaN_bits]
  omega
theorem vf_f2d {u : UInt32} (h : vf_n32 u) : vf_n64 (FP.f2d u) := vf64_no.mpr ((show Jvm.FP.Core.dIsNaN (FP.f2d u) = Jvm.FP.Core.fIsNaN u from FP.f2d_nan u).trans (vf32_no.mp h))
theorem cmp_same {x : UInt64} (h : vf_n64 x) : Op.cmpValue (FP.dcmp x x) .l = 0 := by
  have h := vf64_no.mp h
  rw [← Bool.not_eq_true, Jvm.FP.Core.dIsNaN_iff] at h
  rw [show FP.dcmp x x = some .eq from Jvm.FP.Core.dcmp_self h]
  rfl
