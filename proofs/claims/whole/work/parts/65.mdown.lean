/-! THE MODEL'S STATE -/
def UPm (tb : Nat → Nat × Nat) (F : MS') (e : Nat) (u : List MG) : Prop := (F 918 e = if u = [] then 0 else 1) ∧ ∀ m : MG, u = [m] → F 915 e = nI m.2.2.length ∧ F 916 e = nI m.2.1 ∧ SLs tb F (800 + 200 * e) m.2.2
def HM (tb : Nat → Nat × Nat) (F : MS') (H : List MG) : Prop := F 927 0 = nI H.length ∧ F 928 0 = nI (hop H).length ∧ SLs tb F 1200 (hop H) ∧ (∀ j, j ≤ H.length → F 924 j = nI (hop (H.take j)).length) ∧ ∀ (j : Nat) (m : MG), H[j]? = some m → F 925 j = nI m.1
def RM (tb : Nat → Nat × Nat) (F : MS') (s : SQ) : Prop := (∀ e, e ≤ 1 → RE tb F e (zE s e) ∧ UPm tb F e (zU s e)) ∧ TM tb F 2 (zC s) ∧ HM tb F (zH s) ∧ F 926 0 = nI (zM s)
/-- who made an insertion owns its letter -/
def oT (tb : Nat → Nat × Nat) (o : SO) : Prop := o.1 = 1 → (tb o.2.2.1).2 = o.2.2.2
theorem trb_k {a b : SO} (h : (trb a b).1 = 1) : a.1 = 1 := by
  unfold trb trf at h
  split at h
  · exact h
  · split at h
    · split at h <;> exact h
    · split at h
      · exact h
      · split at h
        · exact absurd h (show ¬ (0 : Nat) = 1 by decide)
        · exact h
theorem oT.tr {tb : Nat → Nat × Nat} {a b : SO} (h : oT tb a) (ha : a.1 ≤ 2) : oT tb (trb a b) := fun u => by
  rw [trb_m a b ha]; exact h (trb_k u)
theorem oT_crp {tb : Nat → Nat × Nat} : ∀ (O : List SO) {b : SO}, oT tb b → b.1 ≤ 2 → oT tb (crp O b)
  | [], _, h, _ => h
  | a :: O, b, h, hb => oT_crp O (h.tr hb) (trf_bnd b a.1 a.2.1 a.2.2.2 hb).1
theorem oT_crs {tb : Nat → Nat × Nat} : ∀ (O : List SO) (b : SO), (∀ o ∈ O, oT tb o ∧ o.1 ≤ 2) → ∀ o ∈ crs O b, oT tb o
  | [], _, _, o, ho => absurd ho List.not_mem_nil
  | a :: O, b, h, o, ho => by
    rcases List.mem_cons.mp (show o ∈ trb a b :: crs O (trb b a) from ho) with rfl | ho
    · exact (h a List.mem_cons_self).1.tr (h a List.mem_cons_self).2
    · exact oT_crs O (trb b a) (fun o ho => h o (List.mem_cons_of_mem _ ho)) o ho
theorem HM.ke {tb : Nat → Nat × Nat} {F F' : MS'} {S : Nat → Nat → Prop} {H : List MG} (z : HM tb F H) (k : KE F F' S) (h1 : ∀ a b, 901 ≤ a → a ≤ 905 → 1200 ≤ b → b < 1400 → ¬ S a b) (h2 : ∀ a b, a = 924 ∨ a = 925 → ¬ S a b) (h3 : ¬ S 927 0 ∧ ¬ S 928 0) (hl : (hop H).length ≤ 200) : HM tb F' H := ⟨(k _ _ h3.1).trans z.1, (k _ _ h3.2).trans z.2.1, z.2.2.1.os (fun j a b => k.os (fun i c d => h1 i j c d (by omega) (by omega))), fun j hj => (k _ _ (h2 _ _ (Or.inl rfl))).trans (z.2.2.2.1 j hj), fun j m hm => (k _ _ (h2 _ _ (Or.inr rfl))).trans (z.2.2.2.2 j m hm)⟩
theorem UPm.ke {tb : Nat → Nat × Nat} {F F' : MS'} {S : Nat → Nat → Prop} {e : Nat} {u : List MG} (z : UPm tb F e u) (k : KE F F' S) (h1 : ∀ a b, rgU e a b → ¬ S a b) (hl : ∀ m ∈ u, m.2.2.length ≤ 200) : UPm tb F' e u := ⟨(k _ _ (h1 _ _ (by unfold rgU; omega))).trans z.1, fun m hm => by
  obtain ⟨a, b, c⟩ := z.2 m hm
  have l := hl m (by rw [hm]; exact List.mem_cons_self)
  exact ⟨(k _ _ (h1 _ _ (by unfold rgU; omega))).trans a, (k _ _ (h1 _ _ (by unfold rgU; omega))).trans b, c.os (fun j d f => k.os (fun i x y => h1 i j (by unfold rgU; omega)))⟩⟩
/-- what an end's deed leaves of the rest -/
theorem RM.oth {tb : Nat → Nat × Nat} {F F' : MS'} {S : Nat → Nat → Prop} {s : SQ} {e : Nat} (z : RM tb F s) (w : WS' s) (hH : (hop (zH s)).length ≤ 200) (he : e ≤ 1) (k : KE F F' S) (hs : ∀ a b, S a b → rgE e a b ∨ rgU e a b ∨ (a = 926 ∧ b = 0)) : (∀ i, i ≤ 1 → i ≠ e → RE tb F' i (zE s i) ∧ UPm tb F' i (zU s i)) ∧ TM tb F' 2 (zC s) ∧ HM tb F' (zH s) := by
  obtain ⟨z1, z2, z3, z4⟩ := z
  have no : ∀ a b, ¬ (rgE e a b ∨ rgU e a b ∨ (a = 926 ∧ b = 0)) → ¬ S a b := fun a b h u => h (hs a b u)
  refine ⟨fun i hi hie => ⟨(z1 i hi).1.ke k (fun a b h h14 => no a b ?_) hi (w.1 i hi).1.2.1.1 (w.1 i hi).1.2.2.1.1 (w.1 i hi).1.2.2.2.1.1, (z1 i hi).2.ke k (fun a b h => no a b ?_) (fun m hm => ((w.1 i hi).2.2.1 m hm).2.2.1)⟩, z2.same (k 909 2 (no _ _ (by unfold rgE rgU; omega))) (fun a b h1 h2 h3 h4 => k a b (no a b (by unfold rgE rgU; omega))), z3.ke k (fun a b h1 h2 h3 h4 => no a b (by unfold rgE rgU; omega)) (fun a b h => no a b (by unfold rgE rgU; omega)) ⟨no _ _ (by unfold rgE rgU; omega), no _ _ (by unfold rgE rgU; omega)⟩ hH⟩
  · unfold rgE at h ⊢
    unfold rgU
    omega
  · unfold rgU at h ⊢
    unfold rgE
    omega
theorem m_delivers {E : EV} {h : AH} {q : Nat} {A : Nat → Nat} {F : MS'} (mp : MP h q A F) {tb : Nat → Nat × Nat} {e : Nat} {s : SQ} {g : MG} (rm : RM tb F s) (hI : INV s) (he : e ≤ 1) (hg : (zH s)[eR (zE s e)]? = some g) (hT : ∀ o ∈ g.2.2, oT tb o) : Ct E yX9_delivers cX9_delivers 4 (some .int) 4 0 [.ref q, .int (nI e)] h (fun v h1 => v = some (.int (nI (if g.1 = e then 97 else 111))) ∧ ∃ F', MP h1 q A F' ∧ FM h h1 ∧ RM tb F' (sDn s e g) ∧ F' 900 0 = F 900 0) noX := by
  refine Ct_of RX9 (by decide +kernel) rfl (Nat.le_of_ble_eq_true rfl) (fun Γ X nt Q hin => ?_)
  have gm := FM.refl h
  have hW := hI.ws
  have hH2 := hI.hH
  have rmE := (rm.1 e he).1
  have rmU := (rm.1 e he).2
  obtain ⟨re1, re2, re3, re4, re5, re6, re7, re8, re9, re10, re11⟩ := (rm.1 e he).1
  obtain ⟨hm1, hm2, hm3, hm4, hm5⟩ := rm.2.2.1
  have hrl : eR (zE s e) < (zH s).length := (List.getElem?_eq_some_iff.mp hg).1
  have hHl := hW.2.2.1.1
  have wg := hW.2.2.1.2 g (List.mem_of_getElem? hg)
  unfold wM at wg
  have hSl : (eS (zE s e)).length ≤ 200 := (hW.1 e he).1.2.1.1
  have hWl : (eW (zE s e)).length ≤ 200 := (hW.1 e he).1.2.2.1.1
  have hKl : (eK (zE s e)).length ≤ 200 := (hW.1 e he).1.2.2.2.1.1
  refine V_aload_n (pc := 0) X 0 dX9_delivers_0 rfl ?_
  refine V_get (pc := 1) X fl_X9_43 dX9_delivers_1 mp.k (mp.f 912) ?_
  refine V_iload_n (pc := 4) X 1 dX9_delivers_4 rfl ?_
  refine M_ald (pc := 5) X mp ⟨by unfold isA; decide, by decide⟩ (by show _ < 2; omega) dX9_delivers_5 ?_
  rw [re8]
  refine V_istore_n (pc := 6) X [(2, .int _), (0, .ref _), (1, .int _)] dX9_delivers_6 rfl (by decide) rfl ?_
  refine V_aload_n (pc := 7) X 1 dX9_delivers_7 rfl ?_
  refine V_get (pc := 8) X fl_X9_43 dX9_delivers_8 mp.k (mp.f 912) ?_
  refine V_iload_n (pc := 11) X 2 dX9_delivers_11 rfl ?_
  refine V_dup2 (pc := 12) X dX9_delivers_12 rfl rfl ?_
  refine M_ald (pc := 13) X mp ⟨by unfold isA; decide, by decide⟩ (by show _ < 2; omega) dX9_delivers_13 ?_
  rw [re8]
  refine V_iconst (pc := 14) (v := 1) X dX9_delivers_14 (by decide) ?_
  show V _ _ _ _ _ _ (Value.int (nI 1) :: _)
  refine V_iadd (pc := 15) X dX9_delivers_15 ?_
  rw [nI_add]
  refine M_ast (pc := 16) X mp ⟨by unfold isA; decide, by decide⟩ (by show _ < 2; omega) dX9_delivers_16 (fun h16 mp16 fm16 => ?_)
  have gm16 := gm.seq fm16
  obtain ⟨F1, eF1⟩ : ∃ F1, F1 = fu F 912 e (nI (eR (zE s e) + 1)) := ⟨_, rfl⟩
  rw [← eF1] at mp16
  have f1k : ∀ a b, ¬ (a = 912 ∧ b = e) → F1 a b = F a b := fun a b h => by rw [eF1]; exact if_neg h
  have f1s : F1 912 e = nI (eR (zE s e) + 1) := by rw [eF1, fu_s]
  have rv1 : RE tb F1 e (rvs (zE s e)) := ⟨(f1k 910 e (by omega)).trans re1, re2.os (fun k _ _ => OS_of (fun i a b => f1k i k (by omega))), (f1k 911 e (by omega)).trans re3, re4.os (fun k _ _ => OS_of (fun i a b => f1k i k (by omega))), re5.same (f1k 909 e (by omega)) (fun a b _ _ _ _ => f1k a b (by omega)), (f1k 913 e (by omega)).trans re6, (f1k 914 e (by omega)).trans re7, f1s, (f1k 917 e (by omega)).trans re9, (f1k 923 e (by omega)).trans re10, fun j k hj => by
    have := re11 j k hj
    unfold KM at this ⊢
    rw [f1k 919 _ (by omega), f1k 920 _ (by omega), f1k 921 _ (by omega), f1k 922 _ (by omega)]
    exact this⟩
  have ke1 : KE F F1 (rgE e) := fun a b hab => f1k a b (fun u => hab (by unfold rgE; omega))
  refine V_aload_n (pc := 17) X 1 dX9_delivers_17 rfl ?_
  refine V_get (pc := 18) X fl_X9_83 dX9_delivers_18 mp16.k (mp16.f 925) ?_
  refine V_iload_n (pc := 21) X 0 dX9_delivers_21 rfl ?_
  refine M_ald (pc := 22) X mp16 ⟨by unfold isA; decide, by decide⟩ (by show _ < 200; omega) dX9_delivers_22 ?_
  rw [f1k 925 _ (by omega), hm5 _ g hg]
  refine V_iload_n (pc := 23) X 2 dX9_delivers_23 rfl ?_
  refine V_icmp_ne (pc := 24) X 64 dX9_delivers_24 (by decide) (fun c24 => ?_) (fun c24 => ?_)
  · have k24 : ¬ g.1 = e := fun y => c24 (by rw [y])
    refine V_aload_n (pc := 64) X 1 dX9_delivers_64 rfl ?_
    refine V_get (pc := 65) X fl_X9_80 dX9_delivers_65 mp16.k (mp16.f 924) ?_
    refine V_iload_n (pc := 68) X 0 dX9_delivers_68 rfl ?_
    refine M_ald (pc := 69) X mp16 ⟨by unfold isA; decide, by decide⟩ (by show _ < 201; omega) dX9_delivers_69 ?_
    rw [f1k 924 _ (by omega), hm4 _ (by omega)]
    refine V_istore_n (pc := 70) X [(3, .int _), (2, .int _), (0, .ref _), (1, .int _)] dX9_delivers_70 rfl (by decide) rfl ?_
    have htk := hop_take hg
    have hle := hop_takele (zH s) (eR (zE s e) + 1)
    rw [htk, List.length_append] at hle
    have key : ∀ (n i : Nat), g.2.2.length - i < n → i ≤ g.2.2.length → ∀ (hr : AH) (Fz : MS'), MP hr q A Fz → FM h hr → RE tb Fz e (fols (rvs (zE s e)) (g.2.2.take i)) → KE F Fz (rgE e) → V E Γ 0 hr 71 [(3, .int (nI ((hop ((zH s).take (eR (zE s e)))).length + i))), (2, .int (nI (eR (zE s e)))), (0, .ref q), (1, .int (nI e))] [] := by
      intro n
      induction n with
      | zero => exact fun i hn => absurd hn (Nat.not_lt_zero _)
      | succ n ih =>
        intro i hn hi hr Fz mpr gmr r1 r2
        refine V_iload_n (pc := 71) X 0 dX9_delivers_71 rfl ?_
        refine V_aload_n (pc := 72) X 2 dX9_delivers_72 rfl ?_
        refine V_get (pc := 73) X fl_X9_80 dX9_delivers_73 mpr.k (mpr.f 924) ?_
        refine V_iload_n (pc := 76) X 1 dX9_delivers_76 rfl ?_
        refine V_iconst (pc := 77) (v := 1) X dX9_delivers_77 (by decide) ?_
        show V _ _ _ _ _ _ (Value.int (nI 1) :: _)
        refine V_iadd (pc := 78) X dX9_delivers_78 ?_
        rw [nI_add]
        refine M_ald (pc := 79) X mpr ⟨by unfold isA; decide, by decide⟩ (by show _ < 201; omega) dX9_delivers_79 ?_
        rw [r2 924 _ (by unfold rgE; omega), hm4 _ (by omega), htk, List.length_append]
        refine V_icmp_ge (pc := 80) X 99 dX9_delivers_80 (by decide) (fun c80 => ?_) (fun c80 => ?_)
        · have hie : ¬ i < g.2.2.length := fun y => nI_ge (by omega : (hop ((zH s).take (eR (zE s e)))).length + i < (hop ((zH s).take (eR (zE s e)))).length + g.2.2.length) (by omega) c80
          refine V_aload_n (pc := 99) X 2 dX9_delivers_99 rfl ?_
          refine V_iload_n (pc := 100) X 3 dX9_delivers_100 rfl ?_
          have hii : i = g.2.2.length := by omega
          subst hii
          rw [List.take_length] at r1
          have all := hI.sm he hg k24 g.2.2.length
          rw [List.take_length] at all
          obtain ⟨c1, c2, c3, c4, c5⟩ := all
          obtain ⟨b1, b2, b3, b4, b5, b6, b7, b8, b9, b10, b11⟩ := r1
          refine V_callV (pc := 101) X clk9 (by decide) mpr.k _ (m_forgets mpr he b4 b3 (by rw [c3]; exact hWl)) cw_X9_186 (Q.room (by decide) (by decide)) rfl (Nat.le_of_ble_eq_true rfl) rfl (by omega) dX9_delivers_101 (fun _ _ z => z.elim) ?_
          rintro v101 h101 ⟨rfl, Fy, mpy, gmy, y1, y2, y3, y4⟩
          simp only [Option.toList_none, List.nil_append]
          refine V_bipush (pc := 104) (v := 111) X dX9_delivers_104 (by decide) ?_
          show V _ _ _ _ _ _ (Value.int (nI 111) :: _)
          refine V_iret (pc := 106) X Q rfl rfl dX9_delivers_106 ?_
          refine ⟨by rw [if_neg k24], ?_⟩
          have yE : KE F Fy (rgE e) := r2.seq (fun a b hab => by
            by_cases h5 : 901 ≤ a ∧ a ≤ 905
            · have eo := y3 b (fun u => hab (by unfold rgE; omega))
              unfold OS at eo
              have e1 := congrArg (fun p => p.1) eo
              have e2 := congrArg (fun p => p.2.1) eo
              have e3 := congrArg (fun p => p.2.2.1) eo
              have e4 := congrArg (fun p => p.2.2.2.1) eo
              have e5 := congrArg (fun p => p.2.2.2.2) eo
              rcases (show a = 901 ∨ a = 902 ∨ a = 903 ∨ a = 904 ∨ a = 905 by omega) with rfl | rfl | rfl | rfl | rfl
              · exact e1
              · exact e2
              · exact e3
              · exact e4
              · exact e5
            · exact y4 a b h5 (fun u => hab (by unfold rgE; omega)))
          obtain ⟨o1, o2, o3⟩ := rm.oth hW hH2 he yE (fun a b u => Or.inl u)
          have ezs : zE (sDn s e g) e = drn (fols (rvs (zE s e)) g.2.2) := by
            rw [show zE (sDn s e g) e = gte e g.1 g.2.2 (zE s e) from zu_s]
            unfold gte; rw [if_neg k24]
          have eUs : zU (sDn s e g) e = zU s e := by
            rw [show zU (sDn s e g) e = (if dnQ s e g = [] then zU s e else zU s e ++ [(e, eR (zE s e) + 1, dnQ s e g)]) from zu_s]
            exact if_pos (by unfold dnQ; rw [if_neg k24])
          refine ⟨Fy, mpy, gmr.seq gmy, ⟨fun i hi => ?_, o2, o3, (yE 926 0 (by unfold rgE; omega)).trans rm.2.2.2⟩, yE 900 0 (by unfold rgE; omega)⟩
          by_cases ei : i = e
          · subst ei
            rw [ezs, eUs]
            have ky : ∀ a b, ¬ (901 ≤ a ∧ a ≤ 905) → a ≠ 911 → Fy a b = Fz a b := fun a b h1 h2 => y4 a b h1 (fun u => h2 u.1)
            refine ⟨⟨(ky 910 i (by decide) (by decide)).trans b1, b2.os (fun k h1 h2 => y3 k (by have : (eS (fols (rvs (zE s i)) g.2.2)).length ≤ 200 := by rw [c2, trl_len]; exact hSl
                                                                                                 omega)), y2, y1, b5.same (ky 909 i (by decide) (by decide)) (fun a c h1 h2 _ _ => ky a c (by omega) (by omega)), (ky 913 i (by decide) (by decide)).trans b6, (ky 914 i (by decide) (by decide)).trans b7, (ky 912 i (by decide) (by decide)).trans b8, (ky 917 i (by decide) (by decide)).trans b9, (ky 923 i (by decide) (by decide)).trans b10, fun j k hj => ?_⟩, rmU.ke yE (fun a b u => by unfold rgU at u; unfold rgE; omega) (fun m hm => ((hW.1 i he).2.2.1 m hm).2.2.1)⟩
            have := b11 j k hj
            unfold KM at this ⊢
            rw [ky 919 _ (by decide) (by decide), ky 920 _ (by decide) (by decide), ky 921 _ (by decide) (by decide), ky 922 _ (by decide) (by decide)]
            exact this
          · rw [show zE (sDn s e g) i = zE s i from zE_n _ _ ei, show zU (sDn s e g) i = zU s i from zU_n _ _ ei]; exact o1 i hi ei
        · have hlt : i < g.2.2.length := by
            rcases Nat.lt_or_ge i g.2.2.length with y | y
            · exact y
            · exact absurd (nI_le (by omega : (hop ((zH s).take (eR (zE s e)))).length + g.2.2.length ≤ (hop ((zH s).take (eR (zE s e)))).length + i) (by omega)) c80
          obtain ⟨o, ho⟩ : ∃ o, g.2.2[i]? = some o := ⟨_, List.getElem?_eq_getElem hlt⟩
          have hflat : (hop (zH s))[(hop ((zH s).take (eR (zE s e)))).length + i]? = some o := by
            have e0 : hop (zH s) = hop ((zH s).take (eR (zE s e))) ++ (g.2.2 ++ hop ((zH s).drop (eR (zE s e) + 1))) := by
              have : zH s = (zH s).take (eR (zE s e)) ++ (g :: (zH s).drop (eR (zE s e) + 1)) := by rw [← drop_at hg, List.take_append_drop]
              exact (congrArg hop this).trans (hop_app _ _)
            rw [e0, List.getElem?_append_right (by omega), show (hop ((zH s).take (eR (zE s e)))).length + i - (hop ((zH s).take (eR (zE s e)))).length = i by omega, List.getElem?_append_left hlt]
            exact ho
          have so : SL tb Fz (1200 + ((hop ((zH s).take (eR (zE s e)))).length + i)) o := (hm3 _ o hflat).os (r2.os (fun a c d => by unfold rgE; omega))
          obtain ⟨c1, c2, c3, c4, c5⟩ := hI.sm he hg k24 i
          have cn := cnt_n hI he hg k24
          have wei := hI.dn e he g hg i (by omega) (Or.inr k24)
          have wei2 := hI.dn e he g hg (i + 1) (by omega) (Or.inr k24)
          have esu := fols_succ (x := rvs (zE s e)) ho
          rw [esu] at wei2
          generalize hxi : fols (rvs (zE s e)) (g.2.2.take i) = xi at r1 c1 c2 c3 c4 c5 wei wei2 esu
          have wo := wg.2.2.2 o (List.mem_of_getElem? ho)
          unfold wO at wo
          have gm3 : o.2.2.2 = g.1 := (hI.1.2.1.2.2 g (List.mem_of_getElem? hg)).2.2.2.1 o (List.mem_of_getElem? ho)
          have Bl : (apS (g.2.2.take i) (bT (zH s) (eR (zE s e)))).length ≤ 200 := by
            have a1 := apS_len (g.2.2.take i) (bT (zH s) (eR (zE s e)))
            have a2 := bT_len (zH s) (eR (zE s e))
            rw [List.length_take] at a1
            omega
          have pos : ∀ a ∈ eS xi ++ eW xi, a.1 ≤ 2 ∧ a.2.1 < 2 ^ 27 ∧ a.2.2.2 ≤ 1 := fun a ha => by
            have l := vS_len c1.1 a ha
            rw [List.length_append] at l
            have w1 : (eS xi).length ≤ 200 := wei.2.1.1
            have w2 : (eW xi).length ≤ 200 := wei.2.2.1.1
            exact ⟨l.1, by omega, by rw [c1.2.2.1 a ha]; exact he⟩
          have vo : vO o (apS (g.2.2.take i) (bT (zH s) (eR (zE s e)))).length := by
            have v := vS_at hI.1.2.1.1 hg
            rw [← List.take_append_drop i g.2.2, vS_app, drop_at ho] at v
            exact v.2.1
          have cro := (crs_ok (eS xi ++ eW xi) o _ c1.1 vo (fun a ha => ⟨by rw [c1.2.2.1 a ha, gm3]; exact fun u => k24 u.symm, (pos a ha).2.2⟩) (by omega)).2.1
          rw [crp_app, ← c1.2.1] at cro
          have hnew : (apO (crp (eW xi) (crp (eS xi) o)) (eX xi)).length ≤ 200 := by
            have : eX (fol xi o) = apO (crp (eW xi) (crp (eS xi) o)) (eX xi) := by
              unfold fol
              dsimp only
              by_cases u : (crp (eW xi) (crp (eS xi) o)).1 = 0
              · rw [if_pos (show (crp xi.2.2.1 (crp xi.2.1 o)).1 = 0 from u), ap_0 u]; rfl
              · rw [if_neg (show ¬ (crp xi.2.2.1 (crp xi.2.1 o)).1 = 0 from u)]; rfl
            rw [← this]
            exact wei2.1.1
          have hbb := crp_bnd (eS xi) o wo.1
          refine V_aload_n (pc := 83) X 2 dX9_delivers_83 rfl ?_
          refine V_iload_n (pc := 84) X 3 dX9_delivers_84 rfl ?_
          refine V_sipush (pc := 85) (v := 1200) X dX9_delivers_85 (by decide) ?_
          show V _ _ _ _ _ _ (Value.int (nI 1200) :: _)
          refine V_iload_n (pc := 88) X 0 dX9_delivers_88 rfl ?_
          refine V_iadd (pc := 89) X dX9_delivers_89 ?_
          rw [nI_add]
          refine V_callV (pc := 90) X clk9 (by decide) mpr.k _ (m_gets (x := xi) mpr he ⟨by omega, by omega⟩ r1 so wei.2.1.1 wei.2.2.1.1 wei.2.2.2.1.1 (fun a ha => pos a (List.mem_append_left _ ha)) (fun a ha => pos a (List.mem_append_right _ ha)) (by have := vO_p vo; omega) (by omega) c1.2.2.2.2.1 c1.2.2.2.2.2.1 cro hnew (oT_crp (eW xi) (oT_crp (eS xi) (hT o (List.mem_of_getElem? ho)) wo.1) hbb.1)) cw_X9_183 (Q.room (by decide) (by decide)) rfl (Nat.le_of_ble_eq_true rfl) rfl (by omega) dX9_delivers_90 (fun _ _ z => z.elim) ?_
          rintro v90 h90 ⟨rfl, Fy, mpy, gmy, y1, y2⟩
          simp only [Option.toList_none, List.nil_append]
          refine V_inc1 (pc := 93) X 0 [(3, .int _), (2, .int _), (0, .ref _), (1, .int _)] dX9_delivers_93 rfl (by decide) rfl ?_
          rw [nI_1]
          refine V_goto (pc := 96) X 71 dX9_delivers_96 (by decide) ?_
          refine ih (i + 1) (by omega) (by omega) _ Fy mpy (gmr.seq gmy) (by rw [esu]; exact y1) (r2.seq y2)
    exact key (g.2.2.length + 1) 0 (by omega) (Nat.zero_le _) _ F1 mp16 gm16 (by rw [List.take_zero]; exact rv1) ke1
  · have k24 : g.1 = e := (nI_eq (by omega) (by omega)).mp c24
    refine V_aload_n (pc := 27) X 1 dX9_delivers_27 rfl ?_
    refine V_get (pc := 28) X fl_X9_37 dX9_delivers_28 mp16.k (mp16.f 910) ?_
    refine V_iload_n (pc := 31) X 2 dX9_delivers_31 rfl ?_
    refine V_iconst (pc := 32) (v := 0) X dX9_delivers_32 (by decide) ?_
    show V _ _ _ _ _ _ (Value.int (nI 0) :: _)
    refine M_ast (pc := 33) X mp16 ⟨by unfold isA; decide, by decide⟩ (by show _ < 2; omega) dX9_delivers_33 (fun h33 mp33 fm33 => ?_)
    have gm33 := gm16.seq fm33
    refine V_aload_n (pc := 34) X 1 dX9_delivers_34 rfl ?_
    refine V_get (pc := 35) X fl_X9_58 dX9_delivers_35 mp33.k (mp33.f 917) ?_
    refine V_iload_n (pc := 38) X 2 dX9_delivers_38 rfl ?_
    refine V_iconst (pc := 39) (v := 0) X dX9_delivers_39 (by decide) ?_
    show V _ _ _ _ _ _ (Value.int (nI 0) :: _)
    refine M_zst (pc := 40) X mp33 (by decide) (Or.inl rfl) (by omega) dX9_delivers_40 (fun h40 mp40 fm40 => ?_)
    have gm40 := gm33.seq fm40
    obtain ⟨F2, eF2⟩ : ∃ F2, F2 = fu (fu F1 910 e (nI 0)) 917 e (nI 0) := ⟨_, rfl⟩
    rw [← eF2] at mp40
    have f2k : ∀ a b, ¬ ((a = 910 ∨ a = 917) ∧ b = e) → F2 a b = F1 a b := fun a b h => by rw [eF2]; exact (if_neg (fun u => h ⟨Or.inr u.1, u.2⟩)).trans (if_neg (fun u => h ⟨Or.inl u.1, u.2⟩))
    have f2a : F2 910 e = nI 0 := by rw [eF2, fu_i (by decide), fu_s]
    have f2b : F2 917 e = 0 := by rw [eF2, fu_s]; rfl
    obtain ⟨b1, b2, b3, b4, b5, b6, b7, b8, b9, b10, b11⟩ := rv1
    have ke2 : KE F F2 (rgE e) := ke1.seq (fun a b hab => f2k a b (fun u => hab (by unfold rgE; omega)))
    have w2 : SLs tb F2 (400 + 200 * e) (eW (zE s e)) := b4.os (fun k _ _ => OS_of (fun i a b => f2k i k (by omega)))
    have km2 : ∀ (j : Nat) (k : KO), (eK (zE s e))[j]? = some k → KM tb F2 (200 * e + j) (eX (zE s e)).length k := fun j k hj => by
      have := b11 j k hj
      unfold KM at this ⊢
      rw [f2k 919 _ (by omega), f2k 920 _ (by omega), f2k 921 _ (by omega), f2k 922 _ (by omega)]
      exact this
    have tx2 : TM tb F2 e (eX (zE s e)) := b5.same (f2k 909 e (by omega)) (fun a c _ _ _ _ => f2k a c (by omega))
    have ezs : zE (sDn s e g) e = sru (rvs (zE s e)) := by
      rw [show zE (sDn s e g) e = gte e g.1 g.2.2 (zE s e) from zu_s]
      unfold gte; rw [if_pos k24]
    have eQ : dnQ s e g = (eW (zE s e)).take (rln (eW (zE s e))) := by unfold dnQ; rw [if_pos k24]
    have eUs : zU (sDn s e g) e = (if dnQ s e g = [] then zU s e else zU s e ++ [(e, eR (zE s e) + 1, dnQ s e g)]) := zu_s
    have hst : zU s e = [] := by
      rcases (hI.1.1 e he).2.2.2.2 with ⟨a, b, c, d⟩ | ⟨m', a1, a2, a3, a4, a5, a6, a7, a8, a9⟩ | ⟨a1, a2⟩
      · exact c
      · exact absurd k24 (a8 _ g a3 hg)
      · exact a1
    have hW0 : ∀ o ∈ eW (zE s e), o.1 ≠ 0 := (hI.1.1 e he).2.2.1
    have hWp : ∀ o ∈ eW (zE s e), o.1 ≠ 0 ∧ o.2.1 < 2 ^ 28 := fun o ho => ⟨hW0 o ho, ((hW.1 e he).1.2.2.1.2 o ho).2.1⟩
    have eEi : ∀ i, i ≠ e → zE (sDn s e g) i = zE s i ∧ zU (sDn s e g) i = zU s i := fun i hi => ⟨zE_n _ _ hi, zU_n _ _ hi⟩
    refine V_aload_n (pc := 41) X 1 dX9_delivers_41 rfl ?_
    refine V_get (pc := 42) X fl_X9_40 dX9_delivers_42 mp40.k (mp40.f 911) ?_
    refine V_iload_n (pc := 45) X 2 dX9_delivers_45 rfl ?_
    refine M_ald (pc := 46) X mp40 ⟨by unfold isA; decide, by decide⟩ (by show _ < 2; omega) dX9_delivers_46 ?_
    rw [f2k 911 e (by omega), b3]
    refine V_if_le (pc := 47) X 61 dX9_delivers_47 (by decide) (fun c47 => ?_) (fun c47 => ?_)
    · have k47 : eW (zE s e) = [] := List.length_eq_zero_iff.mp (by have := (nI_leI (b := 0) (show (eW (rvs (zE s e))).length < 2 ^ 31 by show (eW (zE s e)).length < _; omega) (by decide)).mp c47; exact Nat.le_zero.mp this)
      refine V_bipush (pc := 61) (v := 97) X dX9_delivers_61 (by decide) ?_
      show V _ _ _ _ _ _ (Value.int (nI 97) :: _)
      refine V_iret (pc := 63) X Q rfl rfl dX9_delivers_63 ?_
      refine ⟨by rw [if_pos k24], ?_⟩
      first
      | (have hq : dnQ s e g = [] := by rw [eQ, k47]; rfl
         obtain ⟨o1, o2, o3⟩ := rm.oth hW hH2 he ke2 (fun a b u => Or.inl u)
         refine ⟨F2, mp40, gm40, ⟨fun i hi => ?_, o2, o3, (ke2 926 0 (by unfold rgE; omega)).trans rm.2.2.2⟩, ke2 900 0 (by unfold rgE; omega)⟩
         by_cases ei : i = e
         · subst ei
           rw [ezs, eUs, if_pos hq, hst]
           have ex : sru (rvs (zE s i)) = ((zE s i).1, [], [], (zE s i).2.2.2.1, (zE s i).2.2.2.2.1, (zE s i).2.2.2.2.2.1, (zE s i).2.2.2.2.2.2 + 1) := by
             have k47' : (zE s i).2.2.1 = [] := k47
             unfold sru rvs
             dsimp only
             rw [k47']
             rfl
           rw [ex]
           refine ⟨⟨f2a, fun j o hj => by simp [eS] at hj, (f2k 911 i (by omega)).trans (b3.trans (by rw [show eW (rvs (zE s i)) = [] from k47]; rfl)), fun j o hj => by simp [eW] at hj, tx2, (f2k 913 i (by omega)).trans b6, (f2k 914 i (by omega)).trans b7, (f2k 912 i (by omega)).trans b8, f2b, (f2k 923 i (by omega)).trans b10, km2⟩, ?_⟩
           have := rmU
           rw [hst] at this
           refine ⟨(ke2 918 i (by unfold rgE; omega)).trans this.1, fun m hm => by simp at hm⟩
         · rw [(eEi i ei).1, (eEi i ei).2]; exact o1 i hi ei)
      | (have hq : ¬ dnQ s e g = [] := fun u => by
           rw [eQ] at u
           have := congrArg List.length u
           rw [List.length_take] at this
           simp only [List.length_nil] at this
           have := rln_le (eW (zE s e))
           omega
         have ke3 : KE F Fs (fun a b => rgE e a b ∨ rgU e a b) := fun a b hab => (a10 a b (fun u => by unfold rgE rgU at hab; omega)).trans (ke2 a b (fun u => hab (Or.inl u)))
         have ks : ∀ x y, ¬ (901 ≤ x ∧ x ≤ 905) → ¬ ((x = 910 ∨ x = 911 ∨ (915 ≤ x ∧ x ≤ 918)) ∧ y = e) → Fs x y = F2 x y := fun x y h1 h2 => a10 x y (fun u => u.elim (fun u => h1 u.1) h2)
         obtain ⟨o1, o2, o3⟩ := rm.oth hW hH2 he ke3 (fun a b u => u.elim Or.inl (fun u => Or.inr (Or.inl u)))
         refine ⟨Fs, mps, gm40.seq gms, ⟨fun i hi => ?_, o2, o3, (ke3 926 0 (by unfold rgE rgU; omega)).trans rm.2.2.2⟩, ke3 900 0 (by unfold rgE rgU; omega)⟩
         by_cases ei : i = e
         · subst ei
           rw [ezs, eUs, if_neg hq, hst, eQ]
           have hql : ((eW (zE s i)).take (rln (eW (zE s i)))).length = rln (eW (zE s i)) := by rw [List.length_take]; have := rln_le (eW (zE s i)); omega
           refine ⟨⟨?_, a1, ?_, a3, tx2.same (ks 909 i (by decide) (by omega)) (fun a c h1 h2 _ _ => ks a c (by omega) (by omega)), (ks 913 i (by decide) (by omega)).trans ((f2k 913 i (by omega)).trans b6), (ks 914 i (by decide) (by omega)).trans ((f2k 914 i (by omega)).trans b7), (ks 912 i (by decide) (by omega)).trans ((f2k 912 i (by omega)).trans b8), ?_, (ks 923 i (by decide) (by omega)).trans ((f2k 923 i (by omega)).trans b10), fun j k hj => ?_⟩, ?_, fun m hm => ?_⟩
           · rw [a4]; show nI _ = nI ((eW (zE s i)).take (rln (eW (zE s i)))).length; rw [hql]
           · rw [a6]; show nI _ = nI ((eW (zE s i)).drop (rln (eW (zE s i)))).length; rw [List.length_drop]
           · rw [a7]
             show _ = if (eW (zE s i)).take (rln (eW (zE s i))) = [] then 0 else 1
             rw [if_neg (by rw [← eQ]; exact hq)]
           · have := km2 j k hj
             unfold KM at this ⊢
             rw [ks 919 _ (by decide) (by omega), ks 920 _ (by decide) (by omega), ks 921 _ (by decide) (by omega), ks 922 _ (by decide) (by omega)]
             exact this
           · rw [a8]; simp
           · have em : m = (i, eR (zE s i) + 1, (eW (zE s i)).take (rln (eW (zE s i)))) := by simpa using hm.symm
             rw [em]
             exact ⟨by rw [a5]; show nI _ = nI ((eW (zE s i)).take (rln (eW (zE s i)))).length; rw [hql], by rw [a9, f2k 912 i (by omega)]; exact b8, a2⟩
         · rw [(eEi i ei).1, (eEi i ei).2]; exact o1 i hi ei)
    · have k47 : eW (zE s e) ≠ [] := fun y => c47 (by rw [show eW (rvs (zE s e)) = [] from y]; decide)
      have kpos := rln_pos k47
      have hl0 : 0 < (eW (zE s e)).length := by
        rcases Nat.eq_zero_or_pos (eW (zE s e)).length with y | y
        · exact absurd (List.length_eq_zero_iff.mp y) k47
        · exact y
      refine V_aload_n (pc := 50) X 1 dX9_delivers_50 rfl ?_
      refine V_iload_n (pc := 51) X 2 dX9_delivers_51 rfl ?_
      refine V_aload_n (pc := 52) X 1 dX9_delivers_52 rfl ?_
      refine V_iload_n (pc := 53) X 2 dX9_delivers_53 rfl ?_
      refine V_iconst (pc := 54) (v := 0) X dX9_delivers_54 (by decide) ?_
      show V _ _ _ _ _ _ (Value.int (nI 0) :: _)
      refine V_callV (pc := 55) X clk9 (by decide) mp40.k _ (m_run (f := 0) mp40 he w2 ((f2k 911 e (by omega)).trans b3) hWl hl0 hWp) cw_X9_180 (Q.room (by decide) (by decide)) rfl (Nat.le_of_ble_eq_true rfl) rfl (by omega) dX9_delivers_55 (fun _ _ z => z.elim) ?_
      rintro v55 h55 ⟨rfl, e55⟩
      rw [e55, List.drop_zero]
      simp only [Option.toList_some, List.cons_append, List.nil_append]
      refine V_callV (pc := 58) X clk9 (by decide) mp40.k _ (m_sends mp40 he w2 ((f2k 911 e (by omega)).trans b3) hWl (rln_le _)) cw_X9_137 (Q.room (by decide) (by decide)) rfl (Nat.le_of_ble_eq_true rfl) rfl (by omega) dX9_delivers_58 (fun _ _ z => z.elim) ?_
      rintro v58 h58 ⟨rfl, Fs, mps, gms, a1, a2, a3, a4, a5, a6, a7, a8, a9, a10⟩
      simp only [Option.toList_none, List.nil_append]
      refine V_bipush (pc := 61) (v := 97) X dX9_delivers_61 (by decide) ?_
      show V _ _ _ _ _ _ (Value.int (nI 97) :: _)
      refine V_iret (pc := 63) X Q rfl rfl dX9_delivers_63 ?_
      refine ⟨by rw [if_pos k24], ?_⟩
      first
      | (have hq : dnQ s e g = [] := by rw [eQ, k47]; rfl
         obtain ⟨o1, o2, o3⟩ := rm.oth hW hH2 he ke2 (fun a b u => Or.inl u)
         refine ⟨F2, mp40, gm40, ⟨fun i hi => ?_, o2, o3, (ke2 926 0 (by unfold rgE; omega)).trans rm.2.2.2⟩, ke2 900 0 (by unfold rgE; omega)⟩
         by_cases ei : i = e
         · subst ei
           rw [ezs, eUs, if_pos hq, hst]
           have ex : sru (rvs (zE s i)) = ((zE s i).1, [], [], (zE s i).2.2.2.1, (zE s i).2.2.2.2.1, (zE s i).2.2.2.2.2.1, (zE s i).2.2.2.2.2.2 + 1) := by
             have k47' : (zE s i).2.2.1 = [] := k47
             unfold sru rvs
             dsimp only
             rw [k47']
             rfl
           rw [ex]
           refine ⟨⟨f2a, fun j o hj => by simp [eS] at hj, (f2k 911 i (by omega)).trans (b3.trans (by rw [show eW (rvs (zE s i)) = [] from k47]; rfl)), fun j o hj => by simp [eW] at hj, tx2, (f2k 913 i (by omega)).trans b6, (f2k 914 i (by omega)).trans b7, (f2k 912 i (by omega)).trans b8, f2b, (f2k 923 i (by omega)).trans b10, km2⟩, ?_⟩
           have := rmU
           rw [hst] at this
           refine ⟨(ke2 918 i (by unfold rgE; omega)).trans this.1, fun m hm => by simp at hm⟩
         · rw [(eEi i ei).1, (eEi i ei).2]; exact o1 i hi ei)
      | (have hq : ¬ dnQ s e g = [] := fun u => by
           rw [eQ] at u
           have := congrArg List.length u
           rw [List.length_take] at this
           simp only [List.length_nil] at this
           have := rln_le (eW (zE s e))
           omega
         have ke3 : KE F Fs (fun a b => rgE e a b ∨ rgU e a b) := fun a b hab => (a10 a b (fun u => by unfold rgE rgU at hab; omega)).trans (ke2 a b (fun u => hab (Or.inl u)))
         have ks : ∀ x y, ¬ (901 ≤ x ∧ x ≤ 905) → ¬ ((x = 910 ∨ x = 911 ∨ (915 ≤ x ∧ x ≤ 918)) ∧ y = e) → Fs x y = F2 x y := fun x y h1 h2 => a10 x y (fun u => u.elim (fun u => h1 u.1) h2)
         obtain ⟨o1, o2, o3⟩ := rm.oth hW hH2 he ke3 (fun a b u => u.elim Or.inl (fun u => Or.inr (Or.inl u)))
         refine ⟨Fs, mps, gm40.seq gms, ⟨fun i hi => ?_, o2, o3, (ke3 926 0 (by unfold rgE rgU; omega)).trans rm.2.2.2⟩, ke3 900 0 (by unfold rgE rgU; omega)⟩
         by_cases ei : i = e
         · subst ei
           rw [ezs, eUs, if_neg hq, hst, eQ]
           have hql : ((eW (zE s i)).take (rln (eW (zE s i)))).length = rln (eW (zE s i)) := by rw [List.length_take]; have := rln_le (eW (zE s i)); omega
           refine ⟨⟨?_, a1, ?_, a3, tx2.same (ks 909 i (by decide) (by omega)) (fun a c h1 h2 _ _ => ks a c (by omega) (by omega)), (ks 913 i (by decide) (by omega)).trans ((f2k 913 i (by omega)).trans b6), (ks 914 i (by decide) (by omega)).trans ((f2k 914 i (by omega)).trans b7), (ks 912 i (by decide) (by omega)).trans ((f2k 912 i (by omega)).trans b8), ?_, (ks 923 i (by decide) (by omega)).trans ((f2k 923 i (by omega)).trans b10), fun j k hj => ?_⟩, ?_, fun m hm => ?_⟩
           · rw [a4]; show nI _ = nI ((eW (zE s i)).take (rln (eW (zE s i)))).length; rw [hql]
           · rw [a6]; show nI _ = nI ((eW (zE s i)).drop (rln (eW (zE s i)))).length; rw [List.length_drop]
           · rw [a7]
             show _ = if (eW (zE s i)).take (rln (eW (zE s i))) = [] then 0 else 1
             rw [if_neg (by rw [← eQ]; exact hq)]
           · have := km2 j k hj
             unfold KM at this ⊢
             rw [ks 919 _ (by decide) (by omega), ks 920 _ (by decide) (by omega), ks 921 _ (by decide) (by omega), ks 922 _ (by decide) (by omega)]
             exact this
           · rw [a8]; simp
           · have em : m = (i, eR (zE s i) + 1, (eW (zE s i)).take (rln (eW (zE s i)))) := by simpa using hm.symm
             rw [em]
             exact ⟨by rw [a5]; show nI _ = nI ((eW (zE s i)).take (rln (eW (zE s i)))).length; rw [hql], by rw [a9, f2k 912 i (by omega)]; exact b8, a2⟩
         · rw [(eEi i ei).1, (eEi i ei).2]; exact o1 i hi ei)
