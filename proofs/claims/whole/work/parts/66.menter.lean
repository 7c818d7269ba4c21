/-! THE MODEL: A MESSAGE ENTERS -/
theorem trl_app (O A B : List SO) : trl O (A ++ B) = trl (trl O A) B := List.foldl_append
theorem entR_flat : ∀ (Hs : List MG) (O : List SO), entR O Hs = trl O (hop Hs)
  | [], _ => rfl
  | m :: Hs, O => by
    show entR (trl O m.2.2) Hs = trl O (m.2.2 ++ hop Hs)
    rw [trl_app, entR_flat Hs]
theorem crs_b {B : Nat} : ∀ (O : List SO) (b : SO), (∀ a ∈ O, a.1 ≤ 2 ∧ a.2.1 ≤ B ∧ a.2.2.2 ≤ 1) → ∀ o ∈ crs O b, o.1 ≤ 2 ∧ o.2.1 ≤ B + 1 ∧ o.2.2.2 ≤ 1
  | [], _, _, o, ho => absurd ho List.not_mem_nil
  | a :: O, b, h, o, ho => by
    rcases List.mem_cons.mp (show o ∈ trb a b :: crs O (trb b a) from ho) with rfl | ho
    · obtain ⟨x, y, z⟩ := h a List.mem_cons_self
      obtain ⟨t1, t2, t3⟩ := trf_bnd a b.1 b.2.1 b.2.2.2 x
      have t2' : (trb a b).2.1 ≤ a.2.1 + 1 := t2
      exact ⟨t1, by omega, by rw [trb_m a b x]; exact z⟩
    · exact crs_b O (trb b a) (fun o ho => h o (List.mem_cons_of_mem _ ho)) o ho
theorem trl_b : ∀ (Q O : List SO) (B : Nat), (∀ a ∈ O, a.1 ≤ 2 ∧ a.2.1 ≤ B ∧ a.2.2.2 ≤ 1) → ∀ o ∈ trl O Q, o.1 ≤ 2 ∧ o.2.1 ≤ B + Q.length ∧ o.2.2.2 ≤ 1
  | [], _, _, h, o, ho => h o ho
  | b :: Q, O, B, h, o, ho => by
    have := trl_b Q (crs O b) (B + 1) (crs_b O b h) o ho
    rw [List.length_cons]
    exact ⟨this.1, by omega, this.2.2⟩
theorem trl_T {tb : Nat → Nat × Nat} : ∀ (Q O : List SO), (∀ o ∈ O, oT tb o ∧ o.1 ≤ 2) → ∀ o ∈ trl O Q, oT tb o ∧ o.1 ≤ 2
  | [], _, h, o, ho => h o ho
  | b :: Q, O, h, o, ho => trl_T Q (crs O b) (fun a ha => ⟨oT_crs O b h a ha, (crs_b (B := (O.map (fun o => o.2.1)).sum + (O.map (fun o => o.2.2.2)).sum) [] b (fun _ h => absurd h List.not_mem_nil) |> fun _ => (by
    have : ∀ (O : List SO) (b : SO), (∀ o ∈ O, o.1 ≤ 2) → ∀ o ∈ crs O b, o.1 ≤ 2 := by
      intro O
      induction O with
      | nil => intro b _ o ho; exact absurd ho List.not_mem_nil
      | cons a O ih =>
        intro b hO o ho
        rcases List.mem_cons.mp (show o ∈ trb a b :: crs O (trb b a) from ho) with rfl | ho
        · exact (trf_bnd a b.1 b.2.1 b.2.2.2 (hO a List.mem_cons_self)).1
        · exact ih (trb b a) (fun o ho => hO o (List.mem_cons_of_mem _ ho)) o ho
    exact this O b (fun o ho => (h o ho).2) a ha))⟩) o ho
theorem m_enters {E : EV} {h : AH} {q : Nat} {A : Nat → Nat} {F : MS'} (mp : MP h q A F) {tb : Nat → Nat × Nat} {e : Nat} {s : SQ} {g : MG} (rm : RM tb F s) (hI : INV s) (he : e ≤ 1) (hg : zU s e = [g]) (hT : ∀ o ∈ g.2.2, oT tb o) : Ct E yX9_enters cX9_enters 4 none 4 0 [.ref q, .int (nI e)] h (fun v h1 => v = none ∧ ∃ F', MP h1 q A F' ∧ FM h h1 ∧ RM tb F' (sUp s e g) ∧ F' 915 e = nI g.2.2.length ∧ F' 900 0 = F 900 0) noX := by
  refine Ct_of RX9 (by decide +kernel) rfl (Nat.le_of_ble_eq_true rfl) (fun Γ X nt Q hin => ?_)
  have gm := FM.refl h
  have hW := hI.ws
  have hH2 := hI.hH
  have hgm : g ∈ zU s e := by rw [hg]; exact List.mem_cons_self
  obtain ⟨-, -, g1, g2, g3, g4, g5, g6, g7, g8⟩ := hI.1.enter he hgm
  have hrv := (hI.1.1 e he).1
  have hHl := hW.2.2.1.1
  have wg := (hW.1 e he).2.2.1 g hgm
  unfold wM at wg
  obtain ⟨u1, u2⟩ := (rm.1 e he).2
  obtain ⟨u3, u4, u5⟩ := u2 g hg
  obtain ⟨hm1, hm2, hm3, hm4, hm5⟩ := rm.2.2.1
  have tc := rm.2.1
  have hsplit : hop (zH s) = hop ((zH s).take g.2.1) ++ hop ((zH s).drop g.2.1) := by rw [← hop_app, List.take_append_drop]
  have hsl : (hop (zH s)).length = (hop ((zH s).take g.2.1)).length + (hop ((zH s).drop g.2.1)).length := by
    have := congrArg List.length hsplit
    rwa [List.length_append] at this
  have hcnt : (hop (zH s)).length + g.2.2.length ≤ 200 := by
    have := cnt_s hI.1 he
    rw [hg] at this
    have e2 : (hop [g]).length = g.2.2.length := by show (g.2.2 ++ []).length = _; rw [List.append_nil]
    omega
  have hg0 : 0 < g.2.2.length := by
    rcases Nat.eq_zero_or_pos g.2.2.length with y | y
    · exact absurd (List.length_eq_zero_iff.mp y) g7
    · exact y
  have hHge := hop_ge (fun m hm => (hI.1.2.1.2.2 m hm).2.2.1)
  have gb : ∀ a ∈ g.2.2, a.1 ≤ 2 ∧ a.2.1 ≤ 2 ^ 28 ∧ a.2.2.2 ≤ 1 := fun a ha => by
    have := wg.2.2.2 a ha
    unfold wO at this
    omega
  have hHw : ∀ o ∈ hop (zH s), o.1 ≤ 2 ∧ o.2.1 < 2 ^ 28 ∧ o.2.2.2 ≤ 1 := fun o ho => by
    obtain ⟨m, hm, hom⟩ := hop_mem ho
    have := (hW.2.2.1.2 m hm).2.2.2 o hom
    unfold wO at this
    omega
  refine V_aload_n (pc := 0) X 0 dX9_enters_0 rfl ?_
  refine V_get (pc := 1) X fl_X9_80 dX9_enters_1 mp.k (mp.f 924) ?_
  refine V_aload_n (pc := 4) X 0 dX9_enters_4 rfl ?_
  refine V_get (pc := 5) X fl_X9_55 dX9_enters_5 mp.k (mp.f 916) ?_
  refine V_iload_n (pc := 8) X 1 dX9_enters_8 rfl ?_
  refine M_ald (pc := 9) X mp ⟨by unfold isA; decide, by decide⟩ (by show _ < 2; omega) dX9_enters_9 ?_
  rw [u4]
  refine M_ald (pc := 10) X mp ⟨by unfold isA; decide, by decide⟩ (by show _ < 201; omega) dX9_enters_10 ?_
  rw [hm4 _ (by omega)]
  refine V_istore_n (pc := 11) X [(2, .int _), (0, .ref _), (1, .int _)] dX9_enters_11 rfl (by decide) rfl ?_
  have key : ∀ (n i : Nat), (hop ((zH s).drop g.2.1)).length - i < n → i ≤ (hop ((zH s).drop g.2.1)).length → ∀ (hr : AH) (Fz : MS'), MP hr q A Fz → FM h hr → SLs tb Fz (800 + 200 * e) (trl g.2.2 ((hop ((zH s).drop g.2.1)).take i)) → KE F Fz (fun x y => 901 ≤ x ∧ x ≤ 905 ∧ ((800 + 200 * e ≤ y ∧ y < 1000 + 200 * e) ∨ y = 1400)) → V E Γ 0 hr 12 [(2, .int (nI ((hop ((zH s).take g.2.1)).length + i))), (0, .ref q), (1, .int (nI e))] [] := by
    intro n
    induction n with
    | zero => exact fun i hn => absurd hn (Nat.not_lt_zero _)
    | succ n ih =>
      intro i hn hi hr Fz mpr gmr r1 r2
      refine V_iload_n (pc := 12) X 0 dX9_enters_12 rfl ?_
      refine V_aload_n (pc := 13) X 1 dX9_enters_13 rfl ?_
      refine V_get (pc := 14) X fl_X9_163 dX9_enters_14 mpr.k (mpr.s 928) ?_
      rw [r2 928 0 (by omega), hm2, hsl]
      refine V_icmp_ge (pc := 17) X 69 dX9_enters_17 (by decide) (fun c17 => ?_) (fun c17 => ?_)
      · have hie : i = (hop ((zH s).drop g.2.1)).length := by have := (nI_leI (by omega) (by omega)).mp c17; omega
        subst hie
        rw [List.take_length] at r1
        obtain ⟨Y, hY⟩ : ∃ Y, Y = entR g.2.2 ((zH s).drop g.2.1) := ⟨_, rfl⟩
        have hYf : trl g.2.2 (hop ((zH s).drop g.2.1)) = Y := by rw [hY, entR_flat]
        rw [hYf] at r1
        rw [← hY] at g3 g4 g5 g6
        have hYl : Y.length = g.2.2.length := by rw [hY, entR_len]
        have hYT : ∀ o ∈ Y, oT tb o := fun o ho => by
          rw [← hYf] at ho
          exact (trl_T _ _ (fun a ha => ⟨hT a ha, (gb a ha).1⟩) o ho).1
        have hCC : zC s = apS (hop (zH s)) [] := hI.1.2.1.2.1
        rw [← hCC] at g3
        have hCl : (zC s).length ≤ (hop (zH s)).length := by rw [hCC]; simpa using apS_len (hop (zH s)) []
        have ke1 : KE F Fz (fun x y => (901 ≤ x ∧ x ≤ 905 ∧ ((800 + 200 * e ≤ y ∧ y < 1000 + 200 * e) ∨ y = 1400 ∨ (1200 + (hop (zH s)).length ≤ y ∧ y < 1400))) ∨ (906 ≤ x ∧ x ≤ 908 ∧ 402 ≤ y ∧ y < 603) ∨ (x = 909 ∧ y = 2) ∨ (x = 928 ∧ y = 0)) := fun a c hac => r2 a c (fun u => hac (Or.inl ⟨u.1, u.2.1, u.2.2.imp id Or.inl⟩))
        clear ih
        refine V_iconst (pc := 69) (v := 0) X dX9_enters_69 (by decide) ?_
        show V _ _ _ _ _ _ (Value.int (nI 0) :: _)
        refine V_istore_n (pc := 70) X [(2, .int _), (0, .ref _), (1, .int _)] dX9_enters_70 rfl (by decide) rfl ?_
        have key2 : ∀ (n j : Nat), g.2.2.length - j < n → j ≤ g.2.2.length → ∀ (hr2 : AH) (Fw : MS'), MP hr2 q A Fw → FM h hr2 → KE F Fw (fun x y => (901 ≤ x ∧ x ≤ 905 ∧ ((800 + 200 * e ≤ y ∧ y < 1000 + 200 * e) ∨ y = 1400 ∨ (1200 + (hop (zH s)).length ≤ y ∧ y < 1400))) ∨ (906 ≤ x ∧ x ≤ 908 ∧ 402 ≤ y ∧ y < 603) ∨ (x = 909 ∧ y = 2) ∨ (x = 928 ∧ y = 0)) → SLs tb Fw (800 + 200 * e) Y → SLs tb Fw (1200 + (hop (zH s)).length) (Y.take j) → TM tb Fw 2 (apS (Y.take j) (zC s)) → Fw 928 0 = nI ((hop (zH s)).length + j) → V E Γ 0 hr2 71 [(2, .int (nI j)), (0, .ref q), (1, .int (nI e))] [] := by
          intro n
          induction n with
          | zero => exact fun j hn => absurd hn (Nat.not_lt_zero _)
          | succ n ih =>
            intro j hn hj hr2 Fw mpt gmt s1 s2 s3 s4 s5
            refine V_iload_n (pc := 71) X 0 dX9_enters_71 rfl ?_
            refine V_aload_n (pc := 72) X 1 dX9_enters_72 rfl ?_
            refine V_get (pc := 73) X fl_X9_52 dX9_enters_73 mpt.k (mpt.f 915) ?_
            refine V_iload_n (pc := 76) X 2 dX9_enters_76 rfl ?_
            refine M_ald (pc := 77) X mpt ⟨by unfold isA; decide, by decide⟩ (by show _ < 2; omega) dX9_enters_77 ?_
            rw [s1 915 e (by omega), u3]
            refine V_icmp_ge (pc := 78) X 128 dX9_enters_78 (by decide) (fun c78 => ?_) (fun c78 => ?_)
            · have hie : ¬ j < g.2.2.length := fun y => nI_ge y (by omega) c78
              refine V_aload_n (pc := 128) X 1 dX9_enters_128 rfl ?_
              refine V_get (pc := 129) X fl_X9_83 dX9_enters_129 mpt.k (mpt.f 925) ?_
              refine V_aload_n (pc := 132) X 1 dX9_enters_132 rfl ?_
              have hjj : j = g.2.2.length := by omega
              subst hjj
              rw [← hYl, List.take_length] at s3 s4
              rw [← hYl] at s5
              refine V_get (pc := 133) X fl_X9_169 dX9_enters_133 mpt.k (mpt.s 927) ?_
              rw [s1 927 0 (by omega), hm1]
              refine V_iload_n (pc := 136) X 2 dX9_enters_136 rfl ?_
              refine M_ast (pc := 137) X mpt ⟨by unfold isA; decide, by decide⟩ (by show _ < 200; omega) dX9_enters_137 (fun h137 mp137 fm137 => ?_)
              have gm137 := gmt.seq fm137
              refine V_aload_n (pc := 138) X 1 dX9_enters_138 rfl ?_
              refine V_dup (pc := 139) X dX9_enters_139 rfl ?_
              refine V_get (pc := 140) X fl_X9_169 dX9_enters_140 mp137.k (mp137.s 927) ?_
              rw [show fu Fw 925 _ _ 927 0 = Fw 927 0 from fu_i (by decide), s1 927 0 (by omega), hm1]
              refine V_iconst (pc := 143) (v := 1) X dX9_enters_143 (by decide) ?_
              show V _ _ _ _ _ _ (Value.int (nI 1) :: _)
              refine V_iadd (pc := 144) X dX9_enters_144 ?_
              rw [nI_add]
              refine M_put (pc := 145) X mp137 (i := 927) (by unfold isS; decide) fl_X9_169 dX9_enters_145 (fun h145 mp145 fm145 => ?_)
              have gm145 := gm137.seq fm145
              refine V_aload_n (pc := 148) X 1 dX9_enters_148 rfl ?_
              refine V_get (pc := 149) X fl_X9_80 dX9_enters_149 mp145.k (mp145.f 924) ?_
              refine V_aload_n (pc := 152) X 1 dX9_enters_152 rfl ?_
              refine V_get (pc := 153) X fl_X9_169 dX9_enters_153 mp145.k (mp145.s 927) ?_
              rw [show fu (fu Fw 925 _ _) 927 0 _ 927 0 = nI ((zH s).length + 1) from fu_s]
              refine V_aload_n (pc := 156) X 1 dX9_enters_156 rfl ?_
              refine V_get (pc := 157) X fl_X9_163 dX9_enters_157 mp145.k (mp145.s 928) ?_
              rw [show fu (fu Fw 925 _ _) 927 0 _ 928 0 = Fw 928 0 from (fu_i (by decide)).trans (fu_i (by decide)), s5]
              refine M_ast (pc := 160) X mp145 ⟨by unfold isA; decide, by decide⟩ (by show _ < 201; omega) dX9_enters_160 (fun h160 mp160 fm160 => ?_)
              have gm160 := gm145.seq fm160
              refine V_aload_n (pc := 161) X 1 dX9_enters_161 rfl ?_
              refine V_get (pc := 162) X fl_X9_62 dX9_enters_162 mp160.k (mp160.f 918) ?_
              refine V_iload_n (pc := 165) X 2 dX9_enters_165 rfl ?_
              refine V_iconst (pc := 166) (v := 0) X dX9_enters_166 (by decide) ?_
              show V _ _ _ _ _ _ (Value.int (nI 0) :: _)
              refine M_zst (pc := 167) X mp160 (by decide) (Or.inl rfl) (by omega) dX9_enters_167 (fun h167 mp167 fm167 => ?_)
              have gm167 := gm160.seq fm167
              refine V_vret (pc := 168) X Q rfl dX9_enters_168 ?_
              obtain ⟨F9, eF9⟩ : ∃ F9, F9 = fu (fu (fu (fu Fw 925 (zH s).length (nI e)) 927 0 (nI ((zH s).length + 1))) 924 ((zH s).length + 1) (nI ((hop (zH s)).length + Y.length))) 918 e (nI 0) := ⟨_, rfl⟩
              have mp9 := mp167
              rw [← eF9] at mp9
              have f9 : ∀ a c, ¬ (a = 925 ∧ c = (zH s).length) → a ≠ 927 → ¬ (a = 924 ∧ c = (zH s).length + 1) → ¬ (a = 918 ∧ c = e) → F9 a c = Fw a c := fun a c h1 h2 h3 h4 => by
                rw [eF9]
                exact (if_neg h4).trans ((if_neg h3).trans ((if_neg (fun u => h2 u.1)).trans (if_neg h1)))
              have os9 : ∀ k, OS F9 k = OS Fw k := fun k => OS_of (fun a b c => f9 a k (by omega) (by omega) (by omega) (by omega))
              have eS' : sUp s e g = (s.1, zu s.2.1 e [], apS Y (zC s), zH s ++ [(g.1, g.2.1, Y)], s.2.2.2.2) := by rw [hY]; rfl
              have kall : ∀ a c, (¬ ((901 ≤ a ∧ a ≤ 905) ∧ ((800 + 200 * e ≤ c ∧ c < 1000 + 200 * e) ∨ 1200 ≤ c)) ∧ ¬ (906 ≤ a ∧ a ≤ 908 ∧ 402 ≤ c) ∧ ¬ (a = 909 ∧ c = 2) ∧ a ≠ 928 ∧ a ≠ 927 ∧ a ≠ 925 ∧ a ≠ 924 ∧ ¬ (a = 918 ∧ c = e)) → F9 a c = F a c := fun a c hac => by
                rw [f9 a c (by omega) (by omega) (by omega) (by omega)]
                exact s1 a c (by omega)
              have hopn : hop (zH s ++ [(g.1, g.2.1, Y)]) = hop (zH s) ++ Y := by rw [hop_app]; show hop (zH s) ++ (Y ++ []) = _; rw [List.append_nil]
              refine ⟨rfl, F9, mp9, gm167, ?_, by rw [f9 915 e (by omega) (by omega) (by omega) (by omega), s1 915 e (by omega)]; exact u3, kall 900 0 (by omega)⟩
              rw [eS']
              refine ⟨fun i hi => ⟨?_, ?_⟩, ?_, ⟨?_, ?_, ?_, fun k hk => ?_, fun k mm hk => ?_⟩, ?_⟩
              · show RE tb F9 i (zE s i)
                exact ((rm.1 i hi).1).ke (S := fun a b => ¬ F9 a b = F a b) (fun a b h => Classical.byContradiction h) (fun a b h1 h2 h3 => h3 (kall a b (by unfold rgE at h1; omega))) hi (hW.1 i hi).1.2.1.1 (hW.1 i hi).1.2.2.1.1 (hW.1 i hi).1.2.2.2.1.1
              · show UPm tb F9 i (zu s.2.1 e [] i)
                by_cases ei : i = e
                · subst ei
                  rw [zu_s]
                  exact ⟨by rw [eF9, fu_s]; rfl, fun mm hmm => by simp at hmm⟩
                · rw [zu_n ei]
                  exact ((rm.1 i hi).2).ke (S := fun a b => ¬ F9 a b = F a b) (fun a b h => Classical.byContradiction h) (fun a b h1 h3 => h3 (kall a b (by unfold rgU at h1; omega))) (fun mm hmm => ((hW.1 i hi).2.2.1 mm hmm).2.2.1)
              · exact s4.same (f9 909 2 (by omega) (by omega) (by omega) (by omega)) (fun a c h1 h2 _ _ => f9 a c (by omega) (by omega) (by omega) (by omega))
              · show F9 927 0 = nI (zH s ++ [(g.1, g.2.1, Y)]).length
                rw [eF9, fu_i (by decide), fu_i (by decide), fu_s, List.length_append]
                rfl
              · show F9 928 0 = nI (hop (zH s ++ [(g.1, g.2.1, Y)])).length
                rw [f9 928 0 (by omega) (by omega) (by omega) (by omega), s5, hopn, List.length_append]
              · show SLs tb F9 1200 (hop (zH s ++ [(g.1, g.2.1, Y)]))
                rw [hopn]
                intro k a ha
                rcases Nat.lt_or_ge k (hop (zH s)).length with u | u
                · rw [List.getElem?_append_left u] at ha
                  exact (hm3 k a ha).os ((os9 _).trans (s1.os (fun x y z => by omega)))
                · rw [List.getElem?_append_right u] at ha
                  have := (s3 _ a ha).os (os9 _)
                  rwa [show 1200 + (hop (zH s)).length + (k - (hop (zH s)).length) = 1200 + k by omega] at this
              · have hk : k ≤ (zH s ++ [(g.1, g.2.1, Y)]).length := hk
                rw [List.length_append, List.length_cons, List.length_nil] at hk
                show F9 924 k = nI (hop ((zH s ++ [(g.1, g.2.1, Y)]).take k)).length
                rcases Nat.lt_or_ge (zH s).length k with u | u
                · have ek : k = (zH s).length + 1 := by omega
                  subst ek
                  rw [List.take_of_length_le (by rw [List.length_append]; exact Nat.le_refl _), hopn, List.length_append, eF9, fu_i (by decide), fu_s]
                · rw [take_app' u, f9 924 k (by omega) (by omega) (by omega) (by omega), s1 924 k (by omega)]
                  exact hm4 k u
              · have hk : (zH s ++ [(g.1, g.2.1, Y)])[k]? = some mm := hk
                rcases app_at hk with ⟨v1, v2⟩ | ⟨v1, v2⟩
                · rw [f9 925 k (by omega) (by omega) (by omega) (by omega), s1 925 k (by omega)]
                  exact hm5 k mm v2
                · rw [v1, v2, eF9, fu_i (by decide), fu_i (by decide), fu_i (by decide), fu_s, ← g1]
              · show F9 926 0 = nI (zM s)
                rw [kall 926 0 (by omega)]
                exact rm.2.2.2
            · have hlt : j < g.2.2.length := by
                rcases Nat.lt_or_ge (j) (g.2.2.length) with y | y
                · exact y
                · exact absurd (nI_le y (by omega)) c78
              obtain ⟨o, ho⟩ : ∃ o, Y[j]? = some o := ⟨_, List.getElem?_eq_getElem (by omega)⟩
              have eta : Y.take (j + 1) = Y.take j ++ [o] := by rw [List.take_add_one, ho]; rfl
              have vo : vO o (apS (Y.take j) (zC s)).length := by
                have v := g3
                rw [← List.take_append_drop j Y, vS_app, drop_at ho] at v
                exact v.2.1
              have hal : (apO o (apS (Y.take j) (zC s))).length ≤ 200 := by
                have a1 := apS_len (Y.take j) (zC s)
                have a2 := apO_len o (apS (Y.take j) (zC s))
                rw [List.length_take] at a1
                omega
              refine V_aload_n (pc := 81) X 1 dX9_enters_81 rfl ?_
              refine V_iload_n (pc := 82) X 2 dX9_enters_82 rfl ?_
              refine V_callS (pc := 83) X _ (m_upAt (e := e)) cw_X9_122 (Q.room (by decide) (by decide)) rfl (Nat.le_of_ble_eq_true rfl) rfl (by omega) dX9_enters_83 (fun _ _ z => z.elim) ?_
              rintro v83 h83 ⟨rfl, e83⟩
              rw [e83]
              simp only [Option.toList_some, List.cons_append, List.nil_append]
              refine V_iload_n (pc := 86) X 0 dX9_enters_86 rfl ?_
              refine V_iadd (pc := 87) X dX9_enters_87 ?_
              rw [nI_add]
              refine V_sipush (pc := 88) (v := 1200) X dX9_enters_88 (by decide) ?_
              show V _ _ _ _ _ _ (Value.int (nI 1200) :: _)
              refine V_aload_n (pc := 91) X 1 dX9_enters_91 rfl ?_
              refine V_get (pc := 92) X fl_X9_163 dX9_enters_92 mpt.k (mpt.s 928) ?_
              rw [s5]
              refine V_iadd (pc := 95) X dX9_enters_95 ?_
              rw [nI_add]
              refine V_callV (pc := 96) X clk9 (by decide) mpt.k _ (m_copies mpt (i := 800 + 200 * e + j) (j := 1200 + ((hop (zH s)).length + j)) (by omega) (by omega)) cw_X9_119 (Q.room (by decide) (by decide)) rfl (Nat.le_of_ble_eq_true rfl) rfl (by omega) dX9_enters_96 (fun _ _ z => z.elim) ?_
              rintro v96 h96 ⟨rfl, F1, mp1, gm1, k1, k2⟩
              simp only [Option.toList_none, List.nil_append]
              have gm1t := gmt.seq gm1
              have sn : SL tb F1 (1200 + ((hop (zH s)).length + j)) o := (s2 j o ho).os (by rw [k2, if_pos rfl])
              have t1 : TM tb F1 2 (apS (Y.take j) (zC s)) := s4.same (k1 909 2 (by decide)) (fun a c h1 h2 _ _ => k1 a c (by omega))
              refine V_aload_n (pc := 99) X 1 dX9_enters_99 rfl ?_
              refine V_iconst (pc := 100) (v := 2) X dX9_enters_100 (by decide) ?_
              show V _ _ _ _ _ _ (Value.int (nI 2) :: _)
              refine V_sipush (pc := 101) (v := 1200) X dX9_enters_101 (by decide) ?_
              show V _ _ _ _ _ _ (Value.int (nI 1200) :: _)
              refine V_aload_n (pc := 104) X 1 dX9_enters_104 rfl ?_
              refine V_get (pc := 105) X fl_X9_163 dX9_enters_105 mp1.k (mp1.s 928) ?_
              rw [k1 928 0 (by decide), s5]
              refine V_iadd (pc := 108) X dX9_enters_108 ?_
              rw [nI_add]
              refine V_callV (pc := 109) X clk9 (by decide) mp1.k _ (m_carries mp1 (t := 2) (i := 1200 + ((hop (zH s)).length + j)) (by decide) (by omega) sn t1 vo hal (hYT o (List.mem_of_getElem? ho))) cw_X9_128 (Q.room (by decide) (by decide)) rfl (Nat.le_of_ble_eq_true rfl) rfl (by omega) dX9_enters_109 (fun _ _ z => z.elim) ?_
              rintro v109 h109 ⟨rfl, Fc, mpc, gmc, kc, tcc⟩
              simp only [Option.toList_none, List.nil_append]
              have gmc2 := gm1t.seq gmc
              refine V_aload_n (pc := 112) X 1 dX9_enters_112 rfl ?_
              refine V_dup (pc := 113) X dX9_enters_113 rfl ?_
              refine V_get (pc := 114) X fl_X9_163 dX9_enters_114 mpc.k (mpc.s 928) ?_
              rw [kc.1 928 0 (by decide), k1 928 0 (by decide), s5]
              refine V_iconst (pc := 117) (v := 1) X dX9_enters_117 (by decide) ?_
              show V _ _ _ _ _ _ (Value.int (nI 1) :: _)
              refine V_iadd (pc := 118) X dX9_enters_118 ?_
              rw [nI_add]
              refine M_put (pc := 119) X mpc (i := 928) (by unfold isS; decide) fl_X9_163 dX9_enters_119 (fun h119 mp119 fm119 => ?_)
              have gm119 := gmc2.seq fm119
              obtain ⟨Fd, eFd⟩ : ∃ Fd, Fd = fu Fc 928 0 (nI ((hop (zH s)).length + j + 1)) := ⟨_, rfl⟩
              rw [← eFd] at mp119
              have fd' : ∀ a c, ¬ (a = 928 ∧ c = 0) → Fd a c = Fc a c := fun a c h1 => by rw [eFd]; exact if_neg h1
              have fd : ∀ a c, a ≠ 928 → Fd a c = Fc a c := fun a c h1 => fd' a c (fun u => h1 u.1)
              have osd : ∀ k, k ≠ 1200 + ((hop (zH s)).length + j) → OS Fd k = OS Fw k := fun k hk => (OS_of (fun a b c => (fd a k (by omega)).trans (kc.1 a k (by omega)))).trans (by rw [k2, if_neg hk])
              have osn : OS Fd (1200 + ((hop (zH s)).length + j)) = OS F1 (1200 + ((hop (zH s)).length + j)) := OS_of (fun a b c => (fd a _ (by omega)).trans (kc.1 a _ (by omega)))
              refine V_inc1 (pc := 122) X 0 [(2, .int _), (0, .ref _), (1, .int _)] dX9_enters_122 rfl (by decide) rfl ?_
              rw [nI_1]
              refine V_goto (pc := 125) X 71 dX9_enters_125 (by decide) ?_
              refine ih (j + 1) (by omega) (by omega) _ Fd mp119 gm119 (fun a c hac => ?_) (s2.os (fun k _ _ => osd k (by omega))) (fun k a ha => ?_) ?_ (by rw [eFd, fu_s]; rfl)
              · rw [fd' a c (by omega)]
                by_cases h6 : 906 ≤ a ∧ a ≤ 908
                · rw [kc.2.1 a c h6.1 h6.2 (by omega), k1 a c (by omega)]
                  exact s1 a c hac
                · by_cases h9 : a = 909
                  · subst h9
                    rw [kc.2.2 c (by omega), k1 909 c (by decide)]
                    exact s1 909 c hac
                  · rw [kc.1 a c (by omega)]
                    by_cases h5 : 901 ≤ a ∧ a ≤ 905
                    · rw [← s1 a c hac]
                      have eo : OS F1 c = OS Fw c := by rw [k2, if_neg (by omega)]
                      unfold OS at eo
                      have e1 := congrArg (fun p => p.1) eo
                      have e2 := congrArg (fun p => p.2.1) eo
                      have e3 := congrArg (fun p => p.2.2.1) eo
                      have e4 := congrArg (fun p => p.2.2.2.1) eo
                      have e5 := congrArg (fun p => p.2.2.2.2) eo
                      rcases (show a = 901 ∨ a = 902 ∨ a = 903 ∨ a = 904 ∨ a = 905 by omega) with rfl | rfl | rfl | rfl | rfl
                      · exact e1
                      · exact e2
                      · exact e3
                      · exact e4
                      · exact e5
                    · rw [k1 a c h5]
                      exact s1 a c hac
              · rw [eta] at ha
                rcases Nat.lt_or_ge k j with u | u
                · rw [List.getElem?_append_left (by rw [List.length_take]; omega)] at ha
                  exact (s3 k a ha).os (osd _ (by omega))
                · rw [List.getElem?_append_right (by rw [List.length_take]; omega), List.length_take, Nat.min_eq_left (by omega)] at ha
                  have ej : k - j = 0 := by
                    have := (List.getElem?_eq_some_iff.mp ha).1
                    simp only [List.length_cons, List.length_nil] at this
                    omega
                  rw [ej] at ha
                  have ea : o = a := by simpa using ha
                  rw [← ea, show 1200 + (hop (zH s)).length + k = 1200 + ((hop (zH s)).length + j) by omega]
                  exact sn.os osn
              · rw [eta, apS_app]
                exact tcc.same (fd 909 2 (by decide)) (fun a c h1 h2 _ _ => fd a c (by omega))
        exact key2 (g.2.2.length + 1) 0 (by omega) (Nat.zero_le _) _ Fz mpr gmr ke1 r1 (fun k o hk => by simp at hk) (tc.same (r2 909 2 (by omega)) (fun a c _ _ _ _ => r2 a c (by omega))) (by rw [r2 928 0 (by omega), hm2]; rfl)
      · have hlt : i < (hop ((zH s).drop g.2.1)).length := by
          rcases Nat.lt_or_ge i (hop ((zH s).drop g.2.1)).length with y | y
          · exact y
          · exact absurd (nI_le (by omega : (hop ((zH s).take g.2.1)).length + (hop ((zH s).drop g.2.1)).length ≤ (hop ((zH s).take g.2.1)).length + i) (by omega)) c17
        obtain ⟨b, hb⟩ : ∃ b, (hop ((zH s).drop g.2.1))[i]? = some b := ⟨_, List.getElem?_eq_getElem hlt⟩
        have hbf : (hop (zH s))[(hop ((zH s).take g.2.1)).length + i]? = some b := by
          rw [hsplit, List.getElem?_append_right (by omega), show (hop ((zH s).take g.2.1)).length + i - (hop ((zH s).take g.2.1)).length = i by omega]
          exact hb
        have sb0 : SL tb Fz (1200 + ((hop ((zH s).take g.2.1)).length + i)) b := (hm3 _ b hbf).os (r2.os (fun a c d => by omega))
        have wb := hHw b (List.mem_of_getElem? hbf)
        have hcl : (trl g.2.2 ((hop ((zH s).drop g.2.1)).take i)).length = g.2.2.length := trl_len _ _
        have cb := trl_b ((hop ((zH s).drop g.2.1)).take i) g.2.2 _ gb
        rw [List.length_take] at cb
        have ets := trl_succ (O := g.2.2) hb
        generalize hcur : trl g.2.2 ((hop ((zH s).drop g.2.1)).take i) = cur at r1 hcl cb ets
        refine V_aload_n (pc := 20) X 1 dX9_enters_20 rfl ?_
        refine V_sipush (pc := 21) (v := 1200) X dX9_enters_21 (by decide) ?_
        show V _ _ _ _ _ _ (Value.int (nI 1200) :: _)
        refine V_iload_n (pc := 24) X 0 dX9_enters_24 rfl ?_
        refine V_iadd (pc := 25) X dX9_enters_25 ?_
        rw [nI_add]
        refine V_sipush (pc := 26) (v := 1400) X dX9_enters_26 (by decide) ?_
        show V _ _ _ _ _ _ (Value.int (nI 1400) :: _)
        refine V_callV (pc := 29) X clk9 (by decide) mpr.k _ (m_copies mpr (i := 1200 + ((hop ((zH s).take g.2.1)).length + i)) (j := 1400) (by omega) (by omega)) cw_X9_119 (Q.room (by decide) (by decide)) rfl (Nat.le_of_ble_eq_true rfl) rfl (by omega) dX9_enters_29 (fun _ _ z => z.elim) ?_
        rintro v29 h29 ⟨rfl, F1, mp1, gm1, k1, k2⟩
        simp only [Option.toList_none, List.nil_append]
        have gm1r := gmr.seq gm1
        have sb1 : SL tb F1 1400 b := sb0.os (by rw [k2, if_pos rfl])
        have o1 : ∀ j, j ≠ 1400 → OS F1 j = OS Fz j := fun j hj => by rw [k2, if_neg hj]
        refine V_iconst (pc := 32) (v := 0) X dX9_enters_32 (by decide) ?_
        show V _ _ _ _ _ _ (Value.int (nI 0) :: _)
        refine V_istore_n (pc := 33) X [(3, .int _), (2, .int _), (0, .ref _), (1, .int _)] dX9_enters_33 rfl (by decide) rfl ?_
        have key3 : ∀ (n k : Nat), g.2.2.length - k < n → k ≤ g.2.2.length → ∀ (hr2 : AH) (Fw : MS'), MP hr2 q A Fw → FM h hr2 → KO5 F1 Fw → SLp tb Fw (800 + 200 * e) cur b k → SL tb Fw 1400 (crp (cur.take k) b) → (∀ j, ¬ (800 + 200 * e ≤ j ∧ j < 1000 + 200 * e) → j ≠ 1400 → OS Fw j = OS F1 j) → V E Γ 0 hr2 34 [(3, .int (nI k)), (2, .int (nI ((hop ((zH s).take g.2.1)).length + i))), (0, .ref q), (1, .int (nI e))] [] := by
          intro n
          induction n with
          | zero => exact fun k hn => absurd hn (Nat.not_lt_zero _)
          | succ n ih3 =>
            intro k hn hk hr2 Fw mps gms s1 s2 s3 s4
            refine V_iload_n (pc := 34) X 0 dX9_enters_34 rfl ?_
            refine V_aload_n (pc := 35) X 2 dX9_enters_35 rfl ?_
            refine V_get (pc := 36) X fl_X9_52 dX9_enters_36 mps.k (mps.f 915) ?_
            refine V_iload_n (pc := 39) X 3 dX9_enters_39 rfl ?_
            refine M_ald (pc := 40) X mps ⟨by unfold isA; decide, by decide⟩ (by show _ < 2; omega) dX9_enters_40 ?_
            rw [s1 915 e (by decide), k1 915 e (by decide), r2 915 e (by omega), u3]
            refine V_icmp_ge (pc := 41) X 63 dX9_enters_41 (by decide) (fun c41 => ?_) (fun c41 => ?_)
            · have hie : ¬ k < g.2.2.length := fun y => nI_ge y (by omega) c41
              refine V_inc1 (pc := 63) X 1 [(2, .int _), (3, .int _), (0, .ref _), (1, .int _)] dX9_enters_63 rfl (by decide) rfl ?_
              rw [nI_1]
              refine V_goto (pc := 66) X 12 dX9_enters_66 (by decide) ?_
              have hkk : k = g.2.2.length := by omega
              subst hkk
              refine V.sub [0, 2, 3] rfl ?_
              refine ih (i + 1) (by omega) (by omega) _ Fw mps gms (by rw [ets]; exact SLp.all (by rw [hcl]; exact s2)) (fun a c hac => ?_)
              by_cases h5 : 901 ≤ a ∧ a ≤ 905
              · have eo := (s4 c (by omega) (by omega)).trans (o1 c (by omega))
                rw [← r2 a c hac]
                unfold OS at eo
                have e1 := congrArg (fun p => p.1) eo
                have e2 := congrArg (fun p => p.2.1) eo
                have e3 := congrArg (fun p => p.2.2.1) eo
                have e4 := congrArg (fun p => p.2.2.2.1) eo
                have e5 := congrArg (fun p => p.2.2.2.2) eo
                rcases (show a = 901 ∨ a = 902 ∨ a = 903 ∨ a = 904 ∨ a = 905 by omega) with rfl | rfl | rfl | rfl | rfl
                · exact e1
                · exact e2
                · exact e3
                · exact e4
                · exact e5
              · exact (s1 a c h5).trans ((k1 a c h5).trans (r2 a c hac))
            · have hlt : k < g.2.2.length := by
                rcases Nat.lt_or_ge (k) (g.2.2.length) with y | y
                · exact y
                · exact absurd (nI_le y (by omega)) c41
              obtain ⟨o, ho⟩ : ∃ o, cur[k]? = some o := ⟨_, List.getElem?_eq_getElem (by omega)⟩
              have so : SL tb Fw (800 + 200 * e + k) o := by have := s2 k o ho; rwa [if_neg (Nat.lt_irrefl _)] at this
              obtain ⟨wo1, wo2, wo3⟩ := cb o (List.mem_of_getElem? ho)
              obtain ⟨cb1, cb2, cb3⟩ := crp_bnd (cur.take k) b wb.1
              rw [List.length_take] at cb2
              have cm : (crp (cur.take k) b).2.2.2 ≤ 1 := by rw [show (crp (cur.take k) b).2.2.2 = b.2.2.2 from congrArg Prod.snd cb3]; exact wb.2.2
              refine V_aload_n (pc := 44) X 2 dX9_enters_44 rfl ?_
              refine V_iload_n (pc := 45) X 3 dX9_enters_45 rfl ?_
              refine V_callS (pc := 46) X _ (m_upAt (e := e)) cw_X9_122 (Q.room (by decide) (by decide)) rfl (Nat.le_of_ble_eq_true rfl) rfl (by omega) dX9_enters_46 (fun _ _ z => z.elim) ?_
              rintro v46 h46 ⟨rfl, e46⟩
              rw [e46]
              simp only [Option.toList_some, List.cons_append, List.nil_append]
              refine V_iload_n (pc := 49) X 0 dX9_enters_49 rfl ?_
              refine V_iadd (pc := 50) X dX9_enters_50 ?_
              rw [nI_add]
              refine V_sipush (pc := 51) (v := 1400) X dX9_enters_51 (by decide) ?_
              show V _ _ _ _ _ _ (Value.int (nI 1400) :: _)
              refine V_callV (pc := 54) X clk9 (by decide) mps.k _ (m_crosses (i := 800 + 200 * e + k) (j := 1400) mps (by omega) (by omega) (by omega) so s3 (by omega) (by omega) wo3 cm) cw_X9_166 (Q.room (by decide) (by decide)) rfl (Nat.le_of_ble_eq_true rfl) rfl (by omega) dX9_enters_54 (fun _ _ z => z.elim) ?_
              rintro v54 h54 ⟨rfl, Fy, mpy, gmy, y1, y2, y3, y4⟩
              simp only [Option.toList_none, List.nil_append]
              refine V_inc1 (pc := 57) X 0 [(3, .int _), (2, .int _), (0, .ref _), (1, .int _)] dX9_enters_57 rfl (by decide) rfl ?_
              rw [nI_1]
              refine V_goto (pc := 60) X 34 dX9_enters_60 (by decide) ?_
              refine ih3 (k + 1) (by omega) (by omega) _ Fy mpy (gms.seq gmy) (s1.seq y1) (fun j a ha => ?_) (by rw [crp_succ _ _ _ _ ho]; exact y3) (fun j hj hj2 => (y4 j (by omega) hj2).trans (s4 j hj hj2))
              by_cases ej : j = k
              · subst ej
                rw [ho] at ha
                have ea : o = a := Option.some.inj ha
                rw [if_pos (Nat.lt_succ_self _), ← ea]
                exact y2
              · have hjl := (List.getElem?_eq_some_iff.mp ha).1
                have z := (s2 j a ha).os (y4 (800 + 200 * e + j) (by omega) (by omega))
                rw [show (if j < k + 1 then trb a (crp (cur.take j) b) else a) = if j < k then trb a (crp (cur.take j) b) else a by
                  by_cases u : j < k
                  · rw [if_pos u, if_pos (by omega)]
                  · rw [if_neg u, if_neg (by omega)]]
                exact z
        exact key3 (g.2.2.length + 1) 0 (by omega) (Nat.zero_le _) _ F1 mp1 gm1r (KO5.refl F1) (fun j o ho => by rw [if_neg (Nat.not_lt_zero _)]; have hj := (List.getElem?_eq_some_iff.mp ho).1; exact (r1 j o ho).os (o1 _ (by omega))) sb1 (fun _ _ _ => rfl)
  exact key ((hop ((zH s).drop g.2.1)).length + 1) 0 (by omega) (Nat.zero_le _) _ F mp gm (by rw [List.take_zero]; exact u5) (KE.refl _ _)
