/-! THE LAW: one turn of its loop -/
theorem nI_2 (a : Nat) : nI a + 2 = nI (a + 2) := nI_add a 2
theorem nI_3 (a : Nat) : nI a + 3 = nI (a + 3) := nI_add a 3
theorem nI_4 (a : Nat) : nI a + 4 = nI (a + 4) := nI_add a 4
theorem lg_cmp_self (x : Int64) : lg_cmp x x = 0 := by
  unfold lg_cmp
  rw [if_neg (Int64.lt_irrefl), if_pos rfl]
/-- the law's frame -/
def LW (E : EV) (Γ : VG) (b0 L : Nat) (xs : Nat → Int32) : Prop := CX E Γ RL cL_law 9 ∧ XN (gs Γ) ∧ va_X b0 L xs (gs Γ) (gs Γ).heap ∧ b0 < (gs Γ).heap.size ∧ ¬ A0 E b0 ∧ (∀ rk maxL : Nat, rk ≤ 20 → maxL ≤ 20 → rk + 1 ≤ (gR Γ).frames ∧ 419 + maxL + 40 * rk ≤ (gR Γ).locals) ∧ L ≤ 2048 ∧ ∀ (bb : Nat) (h : AH) (pc : Nat) (ll : List (Nat × Value)), decode cL_law pc = .ok (.ireturn, 1) → V E Γ bb h pc ll [.int 1]
/-- both sides hold the same state -/
def LSt (h : AH) (q q2 o1 o2 : Nat) (A : Nat → Nat) (s : SQ) : Prop := (∃ G, RC h q G s) ∧ (∃ F, MP h q2 A F ∧ RM (zT s) F s) ∧ INV s ∧ TOs s ∧ qK h o1 = 16 ∧ own h o1 = .ref 11 ∧ qK h o2 = 17 ∧ own h o2 = .ref 11
theorem RC.codes {h : AH} {q : Nat} {G : GQ} {s : SQ} (z : RC h q G s) : ∀ y ∈ zL s, (zT s y).1 < 127 ∧ (zT s y).2 ≤ 1 := fun y hy => ⟨(z.2.2.2.2.2.2.1 y hy).1.2.2.2.1, (z.2.2.2.2.2.2.1 y hy).1.2.2.2.2⟩
theorem LSt.next {h h1 h2 : AH} {q q2 o1 o2 : Nat} {A : Nat → Nat} {F2 : MS'} {G1 : GQ} {s2 : SQ} (z1 : RC h1 q G1 s2) (fo : FO h h1) (fm : FM h1 h2) (mp : MP h2 q2 A F2) (rm : RM (zT s2) F2 s2) (hI : INV s2) (hT : TOs s2) (k1 : qK h o1 = 16) (w1 : own h o1 = .ref 11) (k2 : qK h o2 = 17) (w2 : own h o2 = .ref 11) : LSt h2 q q2 o1 o2 A s2 := ⟨⟨G1, z1.fr (fm.mono (fun a _ y => Or.inl y))⟩, ⟨F2, mp, rm⟩, hI, hT, Fr.K fm (Fr.K fo k1 (by decide)) (by decide), Fr.O fm (by rw [Fr.K fo k1 (by decide)]; decide) (Fr.O fo (by rw [k1]; decide) w1), Fr.K fm (Fr.K fo k2 (by decide)) (by decide), Fr.O fm (by rw [Fr.K fo k2 (by decide)]; decide) (Fr.O fo (by rw [k2]; decide) w2)⟩
/-- the law's own row stays as it is through a call of the model -/
theorem LSt.out {h h1 h2 : AH} {o k f : Nat} {v : Value} (fo : FO h h1) (fm : FM h1 h2) (k1 : qK h o = k) (hk : k ≠ 0) (w1 : own h o = .ref 11) (e : qF h1 f o = v) : qF h2 f o = v := Fr.F fm (by rw [Fr.K fo k1 hk]; exact hk) (fun y => ref_ne (a := 11) (b := 10) (by decide) ((Fr.O fo (by rw [k1]; exact hk) w1).symm.trans y)) e
theorem smShare_nn {s : SQ} (w : WS' s) {x : Int32} {u : UInt32} (h : (smShare x s).1 = 0) (hu : Value.float u = (smShare x s).2.1) : vf_n32 u := by
  by_cases hx : x = 0 ∨ x = 1
  · obtain ⟨e, he, rfl⟩ := eq01 hx
    by_cases y : (eX (zE s e)).length = 0
    · rw [smShare_2 he y] at h; exact absurd (show (2 : Nat) = 0 from h) (by decide)
    · rw [smShare_0 he y] at hu
      have hl : (eX (zE s e)).length ≤ 200 := (w.1 e he).1.1.1
      cases hu
      exact nn32 (Nat.lt_of_le_of_lt (Nat.le_trans (cow_le _ _ _) hl) (by decide)) (Nat.lt_of_le_of_lt hl (by decide)) y
  · rw [show smShare x s = (1, .null, s) from smE_n hx] at h; exact absurd (show (1 : Nat) = 0 from h) (by decide)
theorem smMean_nn {s : SQ} (hI : INV s) {u : UInt64} (h : (smMean s).1 = 0) (hu : Value.double u = (smMean s).2.1) : vf_n64 u := by
  by_cases y : (zH s).length = 0
  · rw [smMean_1 y] at h; exact absurd (show (1 : Nat) = 0 from h) (by decide)
  · rw [smMean_0 y] at hu
    have hl := hI.hH
    rw [hop_len] at hl
    have h2 : (zH s).length ≤ 200 := hI.ws.2.2.1.1
    cases hu
    exact nn64 (Nat.lt_of_le_of_lt hl (by decide)) (Nat.lt_of_le_of_lt h2 (by decide)) y
theorem smUndo_b {s : SQ} {x u : Int32} (h : (smUndo x s).1 = 0) (hu : Value.int u = (smUndo x s).2.1) : u = 0 ∨ u = 1 := by
  by_cases hx : x = 0 ∨ x = 1
  · obtain ⟨e, he, rfl⟩ := eq01 hx
    by_cases y : eK (zE s e) = []
    · rw [smUndo_2 he y] at h; exact absurd (show (2 : Nat) = 0 from h) (by decide)
    · obtain ⟨n, hn⟩ : ∃ n, (eK (zE s e)).length = n + 1 := ⟨(eK (zE s e)).length - 1, by have : (eK (zE s e)).length ≠ 0 := fun t => y (List.length_eq_zero_iff.mp t); omega⟩
      obtain ⟨k, hk⟩ : ∃ k, (eK (zE s e))[n]? = some k := ⟨_, List.getElem?_eq_getElem (by omega)⟩
      rw [smUndo_k he hn hk] at h hu
      by_cases k1 : k.1 = 1
      · rw [if_pos k1] at h hu
        cases hf : fnd (eX (zE s e)) k.2.1 0 with
        | none => rw [hf] at hu; cases hu; exact Or.inl rfl
        | some i =>
          rw [hf] at h hu
          by_cases m : zM s < 200
          · have hu : Value.int u = (if zM s < 200 then ((0, .int 1, sUnI s e i k.2.1) : R3) else (3, .null, s)).2.1 := hu
            rw [if_pos m] at hu; cases hu; exact Or.inr rfl
          · have h : (if zM s < 200 then ((0, .int 1, sUnI s e i k.2.1) : R3) else (3, .null, s)).1 = 0 := h
            rw [if_neg m] at h; exact absurd (show (3 : Nat) = 0 from h) (by decide)
      · rw [if_neg k1] at h hu
        by_cases m : dRM s e
        · rw [if_pos m] at hu; cases hu; exact Or.inr rfl
        · rw [if_neg m] at h; exact absurd (show (3 : Nat) = 0 from h) (by decide)
  · rw [show smUndo x s = (1, .null, s) from smE_n hx] at h; exact absurd (show (1 : Nat) = 0 from h) (by decide)
theorem down_B {s : SQ} (hI : INV s) (x : Int32) : ∃ B, (∀ e, e ≤ 1 → x = nI e → ∀ m : MG, (zH s)[eR (zE s e)]? = some m → 1318 + 104 * m.2.2.length ≤ B) ∧ 6 ≤ B ∧ B + Ph (smDown x s).2.2 ≤ 1340 + Ph s ∧ B ≤ 1340 + Ph s := by
  by_cases hx : x = 0 ∨ x = 1
  · obtain ⟨e, he, rfl⟩ := eq01 hx
    cases hm : (zH s)[eR (zE s e)]? with
    | none =>
      refine ⟨6, fun e' he' ee m hm' => ?_, Nat.le_refl _, ?_, by omega⟩
      · have : e = e' := (nI_eq (by omega) (by omega)).mp ee
        rw [← this, hm] at hm'; exact absurd hm' (by simp)
      · have : (smDown (nI e) s).2.2 = s := by unfold smDown; rw [smE_e he, hm]
        rw [this]; omega
    | some m =>
      have d := (dn_mu hI he hm).2
      refine ⟨1318 + 104 * m.2.2.length, fun e' he' ee m' hm' => ?_, by omega, ?_, by omega⟩
      · have : e = e' := (nI_eq (by omega) (by omega)).mp ee
        rw [← this, hm] at hm'
        rw [Option.some.inj hm']; exact Nat.le_refl _
      · rw [smDown_0 he hm]
        show _ + Ph (sDn s e m) ≤ _
        omega
  · refine ⟨6, fun e he ee => absurd (by rw [ee]; rcases (show e = 0 ∨ e = 1 by omega) with rfl | rfl; exact Or.inl rfl; exact Or.inr rfl) hx, Nat.le_refl _, ?_, by omega⟩
    rw [show smDown x s = (1, .null, s) from smE_n hx]
    show 6 + Ph s ≤ _
    omega
theorem dRun_T : ∀ (n : Nat) (s : SQ), INV s → TOs s → TOs (dRun n s).2 ∧ zT (dRun n s).2 = zT s := by
  intro n
  induction n with
  | zero => exact fun s _ hT => ⟨hT, rfl⟩
  | succ n ih =>
    intro s hI hT
    cases hd : dOne s with
    | none => rw [dRun_n hd]; exact ⟨hT, rfl⟩
    | some t =>
      obtain ⟨a, b⟩ := ih t (dOne_ok hI hd).1 (dOne_T hT hI hd)
      rw [dRun_s hd]
      exact ⟨a, b.trans (dOne_zT hI hd)⟩
theorem dAll_T {s : SQ} (hI : INV s) (hT : TOs s) : TOs (dAll s).2 ∧ zT (dAll s).2 = zT s := dRun_T (mu s) s hI hT
theorem cs_insert {E : EV} {Γ : VG} {b0 L : Nat} {xs : Nat → Int32} (lw : LW E Γ b0 L xs) {h : AH} {q q2 o1 o2 i : Nat} {A : Nat → Nat} {s : SQ} (hi : i + 4 ≤ L) (ls : LSt h q q2 o1 o2 A s) (fin : ∀ (h2 : AH) (s2 : SQ), LSt h2 q q2 o1 o2 A s2 → V E Γ (335 * (L - (i + 4)) + Ph s2) h2 2123 [(5, .int (nI i)), (0, .ref b0), (1, .ref q), (2, .ref q2), (3, .ref o1), (4, .ref o2)] []) : V E Γ (335 * (L - i) + Ph s) h 204 [(5, .int (nI i)), (0, .ref b0), (1, .ref q), (2, .ref q2), (3, .ref o1), (4, .ref o2)] [] := by
  obtain ⟨X, nx, hX, hbl, hbA, hRm, hL, -⟩ := lw
  obtain ⟨⟨G, z⟩, ⟨F, mp, rm⟩, hI, hT, ko1, oo1, ko2, oo2⟩ := ls
  have hC := z.codes
  have w := hI.ws
  obtain ⟨c1, hc1⟩ : ∃ c, c = xs (nI (i + 1)).toNatClampNeg := ⟨_, rfl⟩
  obtain ⟨c2, hc2⟩ : ∃ c, c = xs (nI (i + 2)).toNatClampNeg := ⟨_, rfl⟩
  obtain ⟨c3, hc3⟩ : ∃ c, c = xs (nI (i + 3)).toNatClampNeg := ⟨_, rfl⟩
  obtain ⟨d2, hd2⟩ : ∃ d, d = (c2.toUInt32 % 65536).toInt32 := ⟨_, rfl⟩
  obtain ⟨d3, hd3⟩ : ∃ d, d = (c3.toUInt32 % 65536).toInt32 := ⟨_, rfl⟩
  refine V_aload_n (pc := 204) X 2 dL_law_204 rfl ?_
  refine V_aload_n (pc := 205) X 1 dL_law_205 rfl ?_
  refine V_iload (pc := 206) X 0 dL_law_206 rfl ?_
  refine V_iconst (pc := 208) (v := 1) X dL_law_208 (by decide) ?_
  refine V_iadd (pc := 209) X dL_law_209 ?_
  rw [nI_1]
  refine V_sld (pc := 210) X hX hbl hbA (vp_in_nI (show i + 1 < L by omega) (by omega)) dL_law_210 ?_
  rw [← hc1]
  refine V_aload_n (pc := 211) X 1 dL_law_211 rfl ?_
  refine V_iload (pc := 212) X 0 dL_law_212 rfl ?_
  refine V_iconst (pc := 214) (v := 2) X dL_law_214 (by decide) ?_
  refine V_iadd (pc := 215) X dL_law_215 ?_
  rw [nI_2]
  refine V_sld (pc := 216) X hX hbl hbA (vp_in_nI (show i + 2 < L by omega) (by omega)) dL_law_216 ?_
  rw [← hc2]
  refine V_aload_n (pc := 217) X 1 dL_law_217 rfl ?_
  refine V_iload (pc := 218) X 0 dL_law_218 rfl ?_
  refine V_iconst (pc := 220) (v := 3) X dL_law_220 (by decide) ?_
  refine V_iadd (pc := 221) X dL_law_221 ?_
  rw [nI_3]
  refine V_sld (pc := 222) X hX hbl hbA (vp_in_nI (show i + 3 < L by omega) (by omega)) dL_law_222 ?_
  rw [← hc3]
  refine V_i2c (pc := 223) X dL_law_223 ?_
  rw [← hd3]
  refine V_aload_n (pc := 224) X 4 dL_law_224 rfl ?_
  refine V_callW (pc := 225) X nx _ (k_insert (a1 := c1) z hI ko1 oo1) cw_L_123 (hRm _ _ (by decide) (by decide)) rfl (Nat.le_of_ble_eq_true rfl) rfl (by omega) dL_law_225 ?_
  rintro v1 h1 ⟨rfl, ⟨G1, z1⟩, fo1, out1⟩
  simp only [Option.toList_some, List.cons_append, List.nil_append]
  have kr : KR s (smInsert c1 c2 d3 s) := smInsert_K hI hT
  have mp1 : MP h1 q2 A F := mp.fr fo1 (fun a y u => u y)
  generalize hS : smInsert c1 c2 d3 s = S at z1 out1 kr ⊢
  refine V_istore (pc := 228) X [(6, .int _), (5, .int _), (0, .ref _), (1, .ref _), (2, .ref _), (3, .ref _), (4, .ref _)] dL_law_228 (by decide) rfl ?_
  refine V_aload_n (pc := 230) X 4 dL_law_230 rfl ?_
  refine V_aload_n (pc := 231) X 2 dL_law_231 rfl ?_
  refine V_iload (pc := 232) X 1 dL_law_232 rfl ?_
  refine V_iconst (pc := 234) (v := 1) X dL_law_234 (by decide) ?_
  refine V_iadd (pc := 235) X dL_law_235 ?_
  rw [nI_1]
  refine V_sld (pc := 236) X hX hbl hbA (vp_in_nI (show i + 1 < L by omega) (by omega)) dL_law_236 ?_
  rw [← hc1]
  refine V_aload_n (pc := 237) X 2 dL_law_237 rfl ?_
  refine V_iload (pc := 238) X 1 dL_law_238 rfl ?_
  refine V_iconst (pc := 240) (v := 2) X dL_law_240 (by decide) ?_
  refine V_iadd (pc := 241) X dL_law_241 ?_
  rw [nI_2]
  refine V_sld (pc := 242) X hX hbl hbA (vp_in_nI (show i + 2 < L by omega) (by omega)) dL_law_242 ?_
  rw [← hc2]
  refine V_aload_n (pc := 243) X 2 dL_law_243 rfl ?_
  refine V_iload (pc := 244) X 1 dL_law_244 rfl ?_
  refine V_iconst (pc := 246) (v := 3) X dL_law_246 (by decide) ?_
  refine V_iadd (pc := 247) X dL_law_247 ?_
  rw [nI_3]
  refine V_sld (pc := 248) X hX hbl hbA (vp_in_nI (show i + 3 < L by omega) (by omega)) dL_law_248 ?_
  rw [← hc3]
  refine V_i2c (pc := 249) X dL_law_249 ?_
  rw [← hd3]
  refine V_callV (pc := 250) X clk9 (by decide) mp1.k _ (n_insert mp1 rm hI hT hC) cw_L_128 (hRm _ _ (by decide) (by decide)) rfl (Nat.le_of_ble_eq_true rfl) rfl (by omega) dL_law_250 (fun _ _ z => z.elim) ?_
  rintro v2 h2 nk
  rw [hS] at nk
  obtain ⟨⟨F2, mp2, fm2, rm2, t2⟩, u, rfl, hu⟩ := nk
  have ls2 : LSt h2 q q2 o1 o2 A S.2.2 := LSt.next z1 fo1 fm2 mp2 rm2 kr.1 kr.2.1 ko1 oo1 ko2 oo2
  simp only [Option.toList_some, List.cons_append, List.nil_append]
  refine V_istore (pc := 253) X [(7, .int _), (6, .int _), (5, .int _), (0, .ref _), (1, .ref _), (2, .ref _), (3, .ref _), (4, .ref _)] dL_law_253 (by decide) rfl ?_
  refine V_aload_n (pc := 255) X 5 dL_law_255 rfl ?_
  refine V_callV (pc := 256) X clk9 (by decide) mp2.k _ (m_thrown mp2) cw_L_129 (hRm _ _ (by decide) (by decide)) rfl (Nat.le_of_ble_eq_true rfl) rfl (by omega) dL_law_256 (fun _ _ z => z.elim) ?_
  rintro v3 h3 ⟨rfl, e3⟩
  rw [e3, t2]
  simp only [Option.toList_some, List.cons_append, List.nil_append]
  refine V_iload (pc := 259) X 1 dL_law_259 rfl ?_
  refine V_icmp_eq (pc := 261) X 266 dL_law_261 (by decide) (fun c261 => ?_) (fun c261 => ?_)
  · refine V_iload (pc := 266) X 1 dL_law_266 rfl ?_
    refine V_if_ne (pc := 268) X 283 dL_law_268 (by decide) (fun c268 => ?_) (fun c268 => ?_)
    · refine V_goto (pc := 283) X 2123 dL_law_283 (by decide) ?_
      refine V.sub [2, 3, 4, 5, 6, 7] rfl (V.less (b' := 335 * (L - (i + 4)) + Ph S.2.2) (by have := kr.2.2.1; omega) (fin _ _ ls2))
    · have hS0 : S.1 = 0 := (nI_eq (b := 0) (by have := kr.2.2.2; omega) (by decide)).mp c268
      have ou : qF h2 1600 o1 = .long u.toInt64 := LSt.out fo1 fm2 ko1 (by decide) oo1 (by rw [out1 hS0, ← hu hS0]; rfl)
      refine V_aload_n (pc := 271) X 6 dL_law_271 rfl ?_
      refine V_iconst (pc := 272) (v := 0) X dL_law_272 (by decide) ?_
      refine V_lald (pc := 273) X ls2.2.2.2.2.1 ou dL_law_273 ?_
      refine V_iload (pc := 274) X 0 dL_law_274 rfl ?_
      refine V_i2l (pc := 276) X dL_law_276 ?_
      refine V_lcmp (pc := 277) X dL_law_277 ?_
      refine V_if_eq (pc := 278) X 283 dL_law_278 (by decide) (fun c278 => ?_) (fun c278 => ?_)
      · refine V_goto (pc := 283) X 2123 dL_law_283 (by decide) ?_
        refine V.sub [2, 3, 4, 5, 6, 7] rfl (V.less (b' := 335 * (L - (i + 4)) + Ph S.2.2) (by have := kr.2.2.1; omega) (fin _ _ ls2))
      · exact absurd (lg_cmp_self _) c278
  · exact absurd rfl c261
theorem cs_delete {E : EV} {Γ : VG} {b0 L : Nat} {xs : Nat → Int32} (lw : LW E Γ b0 L xs) {h : AH} {q q2 o1 o2 i : Nat} {A : Nat → Nat} {s : SQ} (hi : i + 4 ≤ L) (ls : LSt h q q2 o1 o2 A s) (fin : ∀ (h2 : AH) (s2 : SQ), LSt h2 q q2 o1 o2 A s2 → V E Γ (335 * (L - (i + 4)) + Ph s2) h2 2123 [(5, .int (nI i)), (0, .ref b0), (1, .ref q), (2, .ref q2), (3, .ref o1), (4, .ref o2)] []) : V E Γ (335 * (L - i) + Ph s) h 286 [(5, .int (nI i)), (0, .ref b0), (1, .ref q), (2, .ref q2), (3, .ref o1), (4, .ref o2)] [] := by
  obtain ⟨X, nx, hX, hbl, hbA, hRm, hL, -⟩ := lw
  obtain ⟨⟨G, z⟩, ⟨F, mp, rm⟩, hI, hT, ko1, oo1, ko2, oo2⟩ := ls
  have hC := z.codes
  have w := hI.ws
  obtain ⟨c1, hc1⟩ : ∃ c, c = xs (nI (i + 1)).toNatClampNeg := ⟨_, rfl⟩
  obtain ⟨c2, hc2⟩ : ∃ c, c = xs (nI (i + 2)).toNatClampNeg := ⟨_, rfl⟩
  obtain ⟨c3, hc3⟩ : ∃ c, c = xs (nI (i + 3)).toNatClampNeg := ⟨_, rfl⟩
  obtain ⟨d2, hd2⟩ : ∃ d, d = (c2.toUInt32 % 65536).toInt32 := ⟨_, rfl⟩
  obtain ⟨d3, hd3⟩ : ∃ d, d = (c3.toUInt32 % 65536).toInt32 := ⟨_, rfl⟩
  refine V_aload_n (pc := 286) X 2 dL_law_286 rfl ?_
  refine V_aload_n (pc := 287) X 1 dL_law_287 rfl ?_
  refine V_iload (pc := 288) X 0 dL_law_288 rfl ?_
  refine V_iconst (pc := 290) (v := 1) X dL_law_290 (by decide) ?_
  refine V_iadd (pc := 291) X dL_law_291 ?_
  rw [nI_1]
  refine V_sld (pc := 292) X hX hbl hbA (vp_in_nI (show i + 1 < L by omega) (by omega)) dL_law_292 ?_
  rw [← hc1]
  refine V_aload_n (pc := 293) X 1 dL_law_293 rfl ?_
  refine V_iload (pc := 294) X 0 dL_law_294 rfl ?_
  refine V_iconst (pc := 296) (v := 2) X dL_law_296 (by decide) ?_
  refine V_iadd (pc := 297) X dL_law_297 ?_
  rw [nI_2]
  refine V_sld (pc := 298) X hX hbl hbA (vp_in_nI (show i + 2 < L by omega) (by omega)) dL_law_298 ?_
  rw [← hc2]
  refine V_aload_n (pc := 299) X 4 dL_law_299 rfl ?_
  refine V_callW (pc := 300) X nx _ (k_delete (a1 := c1) z hI ko1 oo1) cw_L_133 (hRm _ _ (by decide) (by decide)) rfl (Nat.le_of_ble_eq_true rfl) rfl (by omega) dL_law_300 ?_
  rintro v1 h1 ⟨rfl, ⟨G1, z1⟩, fo1, out1⟩
  simp only [Option.toList_some, List.cons_append, List.nil_append]
  have kr : KR s (smDelete c1 c2 s) := smDelete_K hI hT
  have mp1 : MP h1 q2 A F := mp.fr fo1 (fun a y u => u y)
  generalize hS : smDelete c1 c2 s = S at z1 out1 kr ⊢
  refine V_istore (pc := 303) X [(6, .int _), (5, .int _), (0, .ref _), (1, .ref _), (2, .ref _), (3, .ref _), (4, .ref _)] dL_law_303 (by decide) rfl ?_
  refine V_aload_n (pc := 305) X 4 dL_law_305 rfl ?_
  refine V_aload_n (pc := 306) X 2 dL_law_306 rfl ?_
  refine V_iload (pc := 307) X 1 dL_law_307 rfl ?_
  refine V_iconst (pc := 309) (v := 1) X dL_law_309 (by decide) ?_
  refine V_iadd (pc := 310) X dL_law_310 ?_
  rw [nI_1]
  refine V_sld (pc := 311) X hX hbl hbA (vp_in_nI (show i + 1 < L by omega) (by omega)) dL_law_311 ?_
  rw [← hc1]
  refine V_aload_n (pc := 312) X 2 dL_law_312 rfl ?_
  refine V_iload (pc := 313) X 1 dL_law_313 rfl ?_
  refine V_iconst (pc := 315) (v := 2) X dL_law_315 (by decide) ?_
  refine V_iadd (pc := 316) X dL_law_316 ?_
  rw [nI_2]
  refine V_sld (pc := 317) X hX hbl hbA (vp_in_nI (show i + 2 < L by omega) (by omega)) dL_law_317 ?_
  rw [← hc2]
  refine V_callV (pc := 318) X clk9 (by decide) mp1.k _ (n_delete mp1 rm hI hT hC) cw_L_136 (hRm _ _ (by decide) (by decide)) rfl (Nat.le_of_ble_eq_true rfl) rfl (by omega) dL_law_318 (fun _ _ z => z.elim) ?_
  rintro v2 h2 nk
  rw [hS] at nk
  obtain ⟨⟨F2, mp2, fm2, rm2, t2⟩, u, rfl, hu⟩ := nk
  have ls2 : LSt h2 q q2 o1 o2 A S.2.2 := LSt.next z1 fo1 fm2 mp2 rm2 kr.1 kr.2.1 ko1 oo1 ko2 oo2
  simp only [Option.toList_some, List.cons_append, List.nil_append]
  refine V_istore (pc := 321) X [(7, .int _), (6, .int _), (5, .int _), (0, .ref _), (1, .ref _), (2, .ref _), (3, .ref _), (4, .ref _)] dL_law_321 (by decide) rfl ?_
  refine V_aload_n (pc := 323) X 5 dL_law_323 rfl ?_
  refine V_callV (pc := 324) X clk9 (by decide) mp2.k _ (m_thrown mp2) cw_L_129 (hRm _ _ (by decide) (by decide)) rfl (Nat.le_of_ble_eq_true rfl) rfl (by omega) dL_law_324 (fun _ _ z => z.elim) ?_
  rintro v3 h3 ⟨rfl, e3⟩
  rw [e3, t2]
  simp only [Option.toList_some, List.cons_append, List.nil_append]
  refine V_iload (pc := 327) X 1 dL_law_327 rfl ?_
  refine V_icmp_eq (pc := 329) X 334 dL_law_329 (by decide) (fun c329 => ?_) (fun c329 => ?_)
  · refine V_iload (pc := 334) X 1 dL_law_334 rfl ?_
    refine V_if_ne (pc := 336) X 351 dL_law_336 (by decide) (fun c336 => ?_) (fun c336 => ?_)
    · refine V_goto (pc := 351) X 2123 dL_law_351 (by decide) ?_
      refine V.sub [2, 3, 4, 5, 6, 7] rfl (V.less (b' := 335 * (L - (i + 4)) + Ph S.2.2) (by have := kr.2.2.1; omega) (fin _ _ ls2))
    · have hS0 : S.1 = 0 := (nI_eq (b := 0) (by have := kr.2.2.2; omega) (by decide)).mp c336
      have ou : qF h2 1600 o1 = .long u.toInt64 := LSt.out fo1 fm2 ko1 (by decide) oo1 (by rw [out1 hS0, ← hu hS0]; rfl)
      refine V_aload_n (pc := 339) X 6 dL_law_339 rfl ?_
      refine V_iconst (pc := 340) (v := 0) X dL_law_340 (by decide) ?_
      refine V_lald (pc := 341) X ls2.2.2.2.2.1 ou dL_law_341 ?_
      refine V_iload (pc := 342) X 0 dL_law_342 rfl ?_
      refine V_i2l (pc := 344) X dL_law_344 ?_
      refine V_lcmp (pc := 345) X dL_law_345 ?_
      refine V_if_eq (pc := 346) X 351 dL_law_346 (by decide) (fun c346 => ?_) (fun c346 => ?_)
      · refine V_goto (pc := 351) X 2123 dL_law_351 (by decide) ?_
        refine V.sub [2, 3, 4, 5, 6, 7] rfl (V.less (b' := 335 * (L - (i + 4)) + Ph S.2.2) (by have := kr.2.2.1; omega) (fin _ _ ls2))
      · exact absurd (lg_cmp_self _) c346
  · exact absurd rfl c329
theorem cs_type {E : EV} {Γ : VG} {b0 L : Nat} {xs : Nat → Int32} (lw : LW E Γ b0 L xs) {h : AH} {q q2 o1 o2 i : Nat} {A : Nat → Nat} {s : SQ} (hi : i + 4 ≤ L) (ls : LSt h q q2 o1 o2 A s) (fin : ∀ (h2 : AH) (s2 : SQ), LSt h2 q q2 o1 o2 A s2 → V E Γ (335 * (L - (i + 4)) + Ph s2) h2 2123 [(5, .int (nI i)), (0, .ref b0), (1, .ref q), (2, .ref q2), (3, .ref o1), (4, .ref o2)] []) : V E Γ (335 * (L - i) + Ph s) h 354 [(5, .int (nI i)), (0, .ref b0), (1, .ref q), (2, .ref q2), (3, .ref o1), (4, .ref o2)] [] := by
  obtain ⟨X, nx, hX, hbl, hbA, hRm, hL, -⟩ := lw
  obtain ⟨⟨G, z⟩, ⟨F, mp, rm⟩, hI, hT, ko1, oo1, ko2, oo2⟩ := ls
  have hC := z.codes
  have w := hI.ws
  obtain ⟨c1, hc1⟩ : ∃ c, c = xs (nI (i + 1)).toNatClampNeg := ⟨_, rfl⟩
  obtain ⟨c2, hc2⟩ : ∃ c, c = xs (nI (i + 2)).toNatClampNeg := ⟨_, rfl⟩
  obtain ⟨c3, hc3⟩ : ∃ c, c = xs (nI (i + 3)).toNatClampNeg := ⟨_, rfl⟩
  obtain ⟨d2, hd2⟩ : ∃ d, d = (c2.toUInt32 % 65536).toInt32 := ⟨_, rfl⟩
  obtain ⟨d3, hd3⟩ : ∃ d, d = (c3.toUInt32 % 65536).toInt32 := ⟨_, rfl⟩
  refine V_aload_n (pc := 354) X 2 dL_law_354 rfl ?_
  refine V_aload_n (pc := 355) X 1 dL_law_355 rfl ?_
  refine V_iload (pc := 356) X 0 dL_law_356 rfl ?_
  refine V_iconst (pc := 358) (v := 1) X dL_law_358 (by decide) ?_
  refine V_iadd (pc := 359) X dL_law_359 ?_
  rw [nI_1]
  refine V_sld (pc := 360) X hX hbl hbA (vp_in_nI (show i + 1 < L by omega) (by omega)) dL_law_360 ?_
  rw [← hc1]
  refine V_aload_n (pc := 361) X 1 dL_law_361 rfl ?_
  refine V_iload (pc := 362) X 0 dL_law_362 rfl ?_
  refine V_iconst (pc := 364) (v := 2) X dL_law_364 (by decide) ?_
  refine V_iadd (pc := 365) X dL_law_365 ?_
  rw [nI_2]
  refine V_sld (pc := 366) X hX hbl hbA (vp_in_nI (show i + 2 < L by omega) (by omega)) dL_law_366 ?_
  rw [← hc2]
  refine V_i2c (pc := 367) X dL_law_367 ?_
  rw [← hd2]
  refine V_aload_n (pc := 368) X 4 dL_law_368 rfl ?_
  refine V_callW (pc := 369) X nx _ (k_type (a1 := c1) z hI ko1 oo1) cw_L_137 (hRm _ _ (by decide) (by decide)) rfl (Nat.le_of_ble_eq_true rfl) rfl (by omega) dL_law_369 ?_
  rintro v1 h1 ⟨rfl, ⟨G1, z1⟩, fo1, out1⟩
  simp only [Option.toList_some, List.cons_append, List.nil_append]
  have kr : KR s (smType c1 d2 s) := smType_K hI hT
  have mp1 : MP h1 q2 A F := mp.fr fo1 (fun a y u => u y)
  generalize hS : smType c1 d2 s = S at z1 out1 kr ⊢
  refine V_istore (pc := 372) X [(6, .int _), (5, .int _), (0, .ref _), (1, .ref _), (2, .ref _), (3, .ref _), (4, .ref _)] dL_law_372 (by decide) rfl ?_
  refine V_aload_n (pc := 374) X 4 dL_law_374 rfl ?_
  refine V_aload_n (pc := 375) X 2 dL_law_375 rfl ?_
  refine V_iload (pc := 376) X 1 dL_law_376 rfl ?_
  refine V_iconst (pc := 378) (v := 1) X dL_law_378 (by decide) ?_
  refine V_iadd (pc := 379) X dL_law_379 ?_
  rw [nI_1]
  refine V_sld (pc := 380) X hX hbl hbA (vp_in_nI (show i + 1 < L by omega) (by omega)) dL_law_380 ?_
  rw [← hc1]
  refine V_aload_n (pc := 381) X 2 dL_law_381 rfl ?_
  refine V_iload (pc := 382) X 1 dL_law_382 rfl ?_
  refine V_iconst (pc := 384) (v := 2) X dL_law_384 (by decide) ?_
  refine V_iadd (pc := 385) X dL_law_385 ?_
  rw [nI_2]
  refine V_sld (pc := 386) X hX hbl hbA (vp_in_nI (show i + 2 < L by omega) (by omega)) dL_law_386 ?_
  rw [← hc2]
  refine V_i2c (pc := 387) X dL_law_387 ?_
  rw [← hd2]
  refine V_callV (pc := 388) X clk9 (by decide) mp1.k _ (n_type mp1 rm hI hT hC) cw_L_140 (hRm _ _ (by decide) (by decide)) rfl (Nat.le_of_ble_eq_true rfl) rfl (by omega) dL_law_388 (fun _ _ z => z.elim) ?_
  rintro v2 h2 nk
  rw [hS] at nk
  obtain ⟨⟨F2, mp2, fm2, rm2, t2⟩, u, rfl, hu⟩ := nk
  have ls2 : LSt h2 q q2 o1 o2 A S.2.2 := LSt.next z1 fo1 fm2 mp2 rm2 kr.1 kr.2.1 ko1 oo1 ko2 oo2
  simp only [Option.toList_some, List.cons_append, List.nil_append]
  refine V_istore (pc := 391) X [(7, .int _), (6, .int _), (5, .int _), (0, .ref _), (1, .ref _), (2, .ref _), (3, .ref _), (4, .ref _)] dL_law_391 (by decide) rfl ?_
  refine V_aload_n (pc := 393) X 5 dL_law_393 rfl ?_
  refine V_callV (pc := 394) X clk9 (by decide) mp2.k _ (m_thrown mp2) cw_L_129 (hRm _ _ (by decide) (by decide)) rfl (Nat.le_of_ble_eq_true rfl) rfl (by omega) dL_law_394 (fun _ _ z => z.elim) ?_
  rintro v3 h3 ⟨rfl, e3⟩
  rw [e3, t2]
  simp only [Option.toList_some, List.cons_append, List.nil_append]
  refine V_iload (pc := 397) X 1 dL_law_397 rfl ?_
  refine V_icmp_eq (pc := 399) X 404 dL_law_399 (by decide) (fun c399 => ?_) (fun c399 => ?_)
  · refine V_iload (pc := 404) X 1 dL_law_404 rfl ?_
    refine V_if_ne (pc := 406) X 421 dL_law_406 (by decide) (fun c406 => ?_) (fun c406 => ?_)
    · refine V_goto (pc := 421) X 2123 dL_law_421 (by decide) ?_
      refine V.sub [2, 3, 4, 5, 6, 7] rfl (V.less (b' := 335 * (L - (i + 4)) + Ph S.2.2) (by have := kr.2.2.1; omega) (fin _ _ ls2))
    · have hS0 : S.1 = 0 := (nI_eq (b := 0) (by have := kr.2.2.2; omega) (by decide)).mp c406
      have ou : qF h2 1600 o1 = .long u.toInt64 := LSt.out fo1 fm2 ko1 (by decide) oo1 (by rw [out1 hS0, ← hu hS0]; rfl)
      refine V_aload_n (pc := 409) X 6 dL_law_409 rfl ?_
      refine V_iconst (pc := 410) (v := 0) X dL_law_410 (by decide) ?_
      refine V_lald (pc := 411) X ls2.2.2.2.2.1 ou dL_law_411 ?_
      refine V_iload (pc := 412) X 0 dL_law_412 rfl ?_
      refine V_i2l (pc := 414) X dL_law_414 ?_
      refine V_lcmp (pc := 415) X dL_law_415 ?_
      refine V_if_eq (pc := 416) X 421 dL_law_416 (by decide) (fun c416 => ?_) (fun c416 => ?_)
      · refine V_goto (pc := 421) X 2123 dL_law_421 (by decide) ?_
        refine V.sub [2, 3, 4, 5, 6, 7] rfl (V.less (b' := 335 * (L - (i + 4)) + Ph S.2.2) (by have := kr.2.2.1; omega) (fin _ _ ls2))
      · exact absurd (lg_cmp_self _) c416
  · exact absurd rfl c399
theorem cs_erase {E : EV} {Γ : VG} {b0 L : Nat} {xs : Nat → Int32} (lw : LW E Γ b0 L xs) {h : AH} {q q2 o1 o2 i : Nat} {A : Nat → Nat} {s : SQ} (hi : i + 4 ≤ L) (ls : LSt h q q2 o1 o2 A s) (fin : ∀ (h2 : AH) (s2 : SQ), LSt h2 q q2 o1 o2 A s2 → V E Γ (335 * (L - (i + 4)) + Ph s2) h2 2123 [(5, .int (nI i)), (0, .ref b0), (1, .ref q), (2, .ref q2), (3, .ref o1), (4, .ref o2)] []) : V E Γ (335 * (L - i) + Ph s) h 424 [(5, .int (nI i)), (0, .ref b0), (1, .ref q), (2, .ref q2), (3, .ref o1), (4, .ref o2)] [] := by
  obtain ⟨X, nx, hX, hbl, hbA, hRm, hL, -⟩ := lw
  obtain ⟨⟨G, z⟩, ⟨F, mp, rm⟩, hI, hT, ko1, oo1, ko2, oo2⟩ := ls
  have hC := z.codes
  have w := hI.ws
  obtain ⟨c1, hc1⟩ : ∃ c, c = xs (nI (i + 1)).toNatClampNeg := ⟨_, rfl⟩
  obtain ⟨c2, hc2⟩ : ∃ c, c = xs (nI (i + 2)).toNatClampNeg := ⟨_, rfl⟩
  obtain ⟨c3, hc3⟩ : ∃ c, c = xs (nI (i + 3)).toNatClampNeg := ⟨_, rfl⟩
  obtain ⟨d2, hd2⟩ : ∃ d, d = (c2.toUInt32 % 65536).toInt32 := ⟨_, rfl⟩
  obtain ⟨d3, hd3⟩ : ∃ d, d = (c3.toUInt32 % 65536).toInt32 := ⟨_, rfl⟩
  refine V_aload_n (pc := 424) X 2 dL_law_424 rfl ?_
  refine V_aload_n (pc := 425) X 1 dL_law_425 rfl ?_
  refine V_iload (pc := 426) X 0 dL_law_426 rfl ?_
  refine V_iconst (pc := 428) (v := 1) X dL_law_428 (by decide) ?_
  refine V_iadd (pc := 429) X dL_law_429 ?_
  rw [nI_1]
  refine V_sld (pc := 430) X hX hbl hbA (vp_in_nI (show i + 1 < L by omega) (by omega)) dL_law_430 ?_
  rw [← hc1]
  refine V_aload_n (pc := 431) X 4 dL_law_431 rfl ?_
  refine V_callW (pc := 432) X nx _ (k_erase (a1 := c1) z hI ko1 oo1) cw_L_141 (hRm _ _ (by decide) (by decide)) rfl (Nat.le_of_ble_eq_true rfl) rfl (by omega) dL_law_432 ?_
  rintro v1 h1 ⟨rfl, ⟨G1, z1⟩, fo1, out1⟩
  simp only [Option.toList_some, List.cons_append, List.nil_append]
  have kr : KR s (smErase c1 s) := smErase_K hI hT
  have mp1 : MP h1 q2 A F := mp.fr fo1 (fun a y u => u y)
  generalize hS : smErase c1 s = S at z1 out1 kr ⊢
  refine V_istore (pc := 435) X [(6, .int _), (5, .int _), (0, .ref _), (1, .ref _), (2, .ref _), (3, .ref _), (4, .ref _)] dL_law_435 (by decide) rfl ?_
  refine V_aload_n (pc := 437) X 4 dL_law_437 rfl ?_
  refine V_aload_n (pc := 438) X 2 dL_law_438 rfl ?_
  refine V_iload (pc := 439) X 1 dL_law_439 rfl ?_
  refine V_iconst (pc := 441) (v := 1) X dL_law_441 (by decide) ?_
  refine V_iadd (pc := 442) X dL_law_442 ?_
  rw [nI_1]
  refine V_sld (pc := 443) X hX hbl hbA (vp_in_nI (show i + 1 < L by omega) (by omega)) dL_law_443 ?_
  rw [← hc1]
  refine V_callV (pc := 444) X clk9 (by decide) mp1.k _ (n_erase mp1 rm hI hT hC) cw_L_144 (hRm _ _ (by decide) (by decide)) rfl (Nat.le_of_ble_eq_true rfl) rfl (by omega) dL_law_444 (fun _ _ z => z.elim) ?_
  rintro v2 h2 nk
  rw [hS] at nk
  obtain ⟨⟨F2, mp2, fm2, rm2, t2⟩, u, rfl, hu⟩ := nk
  have ls2 : LSt h2 q q2 o1 o2 A S.2.2 := LSt.next z1 fo1 fm2 mp2 rm2 kr.1 kr.2.1 ko1 oo1 ko2 oo2
  simp only [Option.toList_some, List.cons_append, List.nil_append]
  refine V_istore (pc := 447) X [(7, .int _), (6, .int _), (5, .int _), (0, .ref _), (1, .ref _), (2, .ref _), (3, .ref _), (4, .ref _)] dL_law_447 (by decide) rfl ?_
  refine V_aload_n (pc := 449) X 5 dL_law_449 rfl ?_
  refine V_callV (pc := 450) X clk9 (by decide) mp2.k _ (m_thrown mp2) cw_L_129 (hRm _ _ (by decide) (by decide)) rfl (Nat.le_of_ble_eq_true rfl) rfl (by omega) dL_law_450 (fun _ _ z => z.elim) ?_
  rintro v3 h3 ⟨rfl, e3⟩
  rw [e3, t2]
  simp only [Option.toList_some, List.cons_append, List.nil_append]
  refine V_iload (pc := 453) X 1 dL_law_453 rfl ?_
  refine V_icmp_eq (pc := 455) X 460 dL_law_455 (by decide) (fun c455 => ?_) (fun c455 => ?_)
  · refine V_iload (pc := 460) X 1 dL_law_460 rfl ?_
    refine V_if_ne (pc := 462) X 477 dL_law_462 (by decide) (fun c462 => ?_) (fun c462 => ?_)
    · refine V_goto (pc := 477) X 2123 dL_law_477 (by decide) ?_
      refine V.sub [2, 3, 4, 5, 6, 7] rfl (V.less (b' := 335 * (L - (i + 4)) + Ph S.2.2) (by have := kr.2.2.1; omega) (fin _ _ ls2))
    · have hS0 : S.1 = 0 := (nI_eq (b := 0) (by have := kr.2.2.2; omega) (by decide)).mp c462
      have ou : qF h2 1600 o1 = .long u.toInt64 := LSt.out fo1 fm2 ko1 (by decide) oo1 (by rw [out1 hS0, ← hu hS0]; rfl)
      refine V_aload_n (pc := 465) X 6 dL_law_465 rfl ?_
      refine V_iconst (pc := 466) (v := 0) X dL_law_466 (by decide) ?_
      refine V_lald (pc := 467) X ls2.2.2.2.2.1 ou dL_law_467 ?_
      refine V_iload (pc := 468) X 0 dL_law_468 rfl ?_
      refine V_i2l (pc := 470) X dL_law_470 ?_
      refine V_lcmp (pc := 471) X dL_law_471 ?_
      refine V_if_eq (pc := 472) X 477 dL_law_472 (by decide) (fun c472 => ?_) (fun c472 => ?_)
      · refine V_goto (pc := 477) X 2123 dL_law_477 (by decide) ?_
        refine V.sub [2, 3, 4, 5, 6, 7] rfl (V.less (b' := 335 * (L - (i + 4)) + Ph S.2.2) (by have := kr.2.2.1; omega) (fin _ _ ls2))
      · exact absurd (lg_cmp_self _) c472
  · exact absurd rfl c455
theorem cs_moveCursor {E : EV} {Γ : VG} {b0 L : Nat} {xs : Nat → Int32} (lw : LW E Γ b0 L xs) {h : AH} {q q2 o1 o2 i : Nat} {A : Nat → Nat} {s : SQ} (hi : i + 4 ≤ L) (ls : LSt h q q2 o1 o2 A s) (fin : ∀ (h2 : AH) (s2 : SQ), LSt h2 q q2 o1 o2 A s2 → V E Γ (335 * (L - (i + 4)) + Ph s2) h2 2123 [(5, .int (nI i)), (0, .ref b0), (1, .ref q), (2, .ref q2), (3, .ref o1), (4, .ref o2)] []) : V E Γ (335 * (L - i) + Ph s) h 480 [(5, .int (nI i)), (0, .ref b0), (1, .ref q), (2, .ref q2), (3, .ref o1), (4, .ref o2)] [] := by
  obtain ⟨X, nx, hX, hbl, hbA, hRm, hL, -⟩ := lw
  obtain ⟨⟨G, z⟩, ⟨F, mp, rm⟩, hI, hT, ko1, oo1, ko2, oo2⟩ := ls
  have hC := z.codes
  have w := hI.ws
  obtain ⟨c1, hc1⟩ : ∃ c, c = xs (nI (i + 1)).toNatClampNeg := ⟨_, rfl⟩
  obtain ⟨c2, hc2⟩ : ∃ c, c = xs (nI (i + 2)).toNatClampNeg := ⟨_, rfl⟩
  obtain ⟨c3, hc3⟩ : ∃ c, c = xs (nI (i + 3)).toNatClampNeg := ⟨_, rfl⟩
  obtain ⟨d2, hd2⟩ : ∃ d, d = (c2.toUInt32 % 65536).toInt32 := ⟨_, rfl⟩
  obtain ⟨d3, hd3⟩ : ∃ d, d = (c3.toUInt32 % 65536).toInt32 := ⟨_, rfl⟩
  refine V_aload_n (pc := 480) X 2 dL_law_480 rfl ?_
  refine V_aload_n (pc := 481) X 1 dL_law_481 rfl ?_
  refine V_iload (pc := 482) X 0 dL_law_482 rfl ?_
  refine V_iconst (pc := 484) (v := 1) X dL_law_484 (by decide) ?_
  refine V_iadd (pc := 485) X dL_law_485 ?_
  rw [nI_1]
  refine V_sld (pc := 486) X hX hbl hbA (vp_in_nI (show i + 1 < L by omega) (by omega)) dL_law_486 ?_
  rw [← hc1]
  refine V_aload_n (pc := 487) X 1 dL_law_487 rfl ?_
  refine V_iload (pc := 488) X 0 dL_law_488 rfl ?_
  refine V_iconst (pc := 490) (v := 2) X dL_law_490 (by decide) ?_
  refine V_iadd (pc := 491) X dL_law_491 ?_
  rw [nI_2]
  refine V_sld (pc := 492) X hX hbl hbA (vp_in_nI (show i + 2 < L by omega) (by omega)) dL_law_492 ?_
  rw [← hc2]
  refine V_aload_n (pc := 493) X 4 dL_law_493 rfl ?_
  refine V_callW (pc := 494) X nx _ (k_moveCursor (a1 := c1) z hI ko1 oo1) cw_L_145 (hRm _ _ (by decide) (by decide)) rfl (Nat.le_of_ble_eq_true rfl) rfl (by omega) dL_law_494 ?_
  rintro v1 h1 ⟨rfl, ⟨G1, z1⟩, fo1, out1⟩
  simp only [Option.toList_some, List.cons_append, List.nil_append]
  have kr : KR s (smMove c1 c2 s) := smMove_K hI hT
  have mp1 : MP h1 q2 A F := mp.fr fo1 (fun a y u => u y)
  generalize hS : smMove c1 c2 s = S at z1 out1 kr ⊢
  refine V_istore (pc := 497) X [(6, .int _), (5, .int _), (0, .ref _), (1, .ref _), (2, .ref _), (3, .ref _), (4, .ref _)] dL_law_497 (by decide) rfl ?_
  refine V_aload_n (pc := 499) X 4 dL_law_499 rfl ?_
  refine V_aload_n (pc := 500) X 2 dL_law_500 rfl ?_
  refine V_iload (pc := 501) X 1 dL_law_501 rfl ?_
  refine V_iconst (pc := 503) (v := 1) X dL_law_503 (by decide) ?_
  refine V_iadd (pc := 504) X dL_law_504 ?_
  rw [nI_1]
  refine V_sld (pc := 505) X hX hbl hbA (vp_in_nI (show i + 1 < L by omega) (by omega)) dL_law_505 ?_
  rw [← hc1]
  refine V_aload_n (pc := 506) X 2 dL_law_506 rfl ?_
  refine V_iload (pc := 507) X 1 dL_law_507 rfl ?_
  refine V_iconst (pc := 509) (v := 2) X dL_law_509 (by decide) ?_
  refine V_iadd (pc := 510) X dL_law_510 ?_
  rw [nI_2]
  refine V_sld (pc := 511) X hX hbl hbA (vp_in_nI (show i + 2 < L by omega) (by omega)) dL_law_511 ?_
  rw [← hc2]
  refine V_callV (pc := 512) X clk9 (by decide) mp1.k _ (n_moveCursor mp1 rm hI hT hC) cw_L_147 (hRm _ _ (by decide) (by decide)) rfl (Nat.le_of_ble_eq_true rfl) rfl (by omega) dL_law_512 (fun _ _ z => z.elim) ?_
  rintro v2 h2 nk
  rw [hS] at nk
  obtain ⟨⟨F2, mp2, fm2, rm2, t2⟩, u, rfl, hu⟩ := nk
  have ls2 : LSt h2 q q2 o1 o2 A S.2.2 := LSt.next z1 fo1 fm2 mp2 rm2 kr.1 kr.2.1 ko1 oo1 ko2 oo2
  simp only [Option.toList_some, List.cons_append, List.nil_append]
  refine V_istore (pc := 515) X [(7, .int _), (6, .int _), (5, .int _), (0, .ref _), (1, .ref _), (2, .ref _), (3, .ref _), (4, .ref _)] dL_law_515 (by decide) rfl ?_
  refine V_aload_n (pc := 517) X 5 dL_law_517 rfl ?_
  refine V_callV (pc := 518) X clk9 (by decide) mp2.k _ (m_thrown mp2) cw_L_129 (hRm _ _ (by decide) (by decide)) rfl (Nat.le_of_ble_eq_true rfl) rfl (by omega) dL_law_518 (fun _ _ z => z.elim) ?_
  rintro v3 h3 ⟨rfl, e3⟩
  rw [e3, t2]
  simp only [Option.toList_some, List.cons_append, List.nil_append]
  refine V_iload (pc := 521) X 1 dL_law_521 rfl ?_
  refine V_icmp_eq (pc := 523) X 528 dL_law_523 (by decide) (fun c523 => ?_) (fun c523 => ?_)
  · refine V_iload (pc := 528) X 1 dL_law_528 rfl ?_
    refine V_if_ne (pc := 530) X 545 dL_law_530 (by decide) (fun c530 => ?_) (fun c530 => ?_)
    · refine V_goto (pc := 545) X 2123 dL_law_545 (by decide) ?_
      refine V.sub [2, 3, 4, 5, 6, 7] rfl (V.less (b' := 335 * (L - (i + 4)) + Ph S.2.2) (by have := kr.2.2.1; omega) (fin _ _ ls2))
    · have hS0 : S.1 = 0 := (nI_eq (b := 0) (by have := kr.2.2.2; omega) (by decide)).mp c530
      have ou : qF h2 1600 o1 = .long u.toInt64 := LSt.out fo1 fm2 ko1 (by decide) oo1 (by rw [out1 hS0, ← hu hS0]; rfl)
      refine V_aload_n (pc := 533) X 6 dL_law_533 rfl ?_
      refine V_iconst (pc := 534) (v := 0) X dL_law_534 (by decide) ?_
      refine V_lald (pc := 535) X ls2.2.2.2.2.1 ou dL_law_535 ?_
      refine V_iload (pc := 536) X 0 dL_law_536 rfl ?_
      refine V_i2l (pc := 538) X dL_law_538 ?_
      refine V_lcmp (pc := 539) X dL_law_539 ?_
      refine V_if_eq (pc := 540) X 545 dL_law_540 (by decide) (fun c540 => ?_) (fun c540 => ?_)
      · refine V_goto (pc := 545) X 2123 dL_law_545 (by decide) ?_
        refine V.sub [2, 3, 4, 5, 6, 7] rfl (V.less (b' := 335 * (L - (i + 4)) + Ph S.2.2) (by have := kr.2.2.1; omega) (fin _ _ ls2))
      · exact absurd (lg_cmp_self _) c540
  · exact absurd rfl c523
theorem cs_undo {E : EV} {Γ : VG} {b0 L : Nat} {xs : Nat → Int32} (lw : LW E Γ b0 L xs) {h : AH} {q q2 o1 o2 i : Nat} {A : Nat → Nat} {s : SQ} (hi : i + 4 ≤ L) (ls : LSt h q q2 o1 o2 A s) (fin : ∀ (h2 : AH) (s2 : SQ), LSt h2 q q2 o1 o2 A s2 → V E Γ (335 * (L - (i + 4)) + Ph s2) h2 2123 [(5, .int (nI i)), (0, .ref b0), (1, .ref q), (2, .ref q2), (3, .ref o1), (4, .ref o2)] []) : V E Γ (335 * (L - i) + Ph s) h 548 [(5, .int (nI i)), (0, .ref b0), (1, .ref q), (2, .ref q2), (3, .ref o1), (4, .ref o2)] [] := by
  obtain ⟨X, nx, hX, hbl, hbA, hRm, hL, -⟩ := lw
  obtain ⟨⟨G, z⟩, ⟨F, mp, rm⟩, hI, hT, ko1, oo1, ko2, oo2⟩ := ls
  have hC := z.codes
  have w := hI.ws
  obtain ⟨c1, hc1⟩ : ∃ c, c = xs (nI (i + 1)).toNatClampNeg := ⟨_, rfl⟩
  obtain ⟨c2, hc2⟩ : ∃ c, c = xs (nI (i + 2)).toNatClampNeg := ⟨_, rfl⟩
  obtain ⟨c3, hc3⟩ : ∃ c, c = xs (nI (i + 3)).toNatClampNeg := ⟨_, rfl⟩
  obtain ⟨d2, hd2⟩ : ∃ d, d = (c2.toUInt32 % 65536).toInt32 := ⟨_, rfl⟩
  obtain ⟨d3, hd3⟩ : ∃ d, d = (c3.toUInt32 % 65536).toInt32 := ⟨_, rfl⟩
  refine V_aload_n (pc := 548) X 2 dL_law_548 rfl ?_
  refine V_aload_n (pc := 549) X 1 dL_law_549 rfl ?_
  refine V_iload (pc := 550) X 0 dL_law_550 rfl ?_
  refine V_iconst (pc := 552) (v := 1) X dL_law_552 (by decide) ?_
  refine V_iadd (pc := 553) X dL_law_553 ?_
  rw [nI_1]
  refine V_sld (pc := 554) X hX hbl hbA (vp_in_nI (show i + 1 < L by omega) (by omega)) dL_law_554 ?_
  rw [← hc1]
  refine V_aload_n (pc := 555) X 4 dL_law_555 rfl ?_
  refine V_callW (pc := 556) X nx _ (k_undo (a1 := c1) z hI ko1 oo1) cw_L_148 (hRm _ _ (by decide) (by decide)) rfl (Nat.le_of_ble_eq_true rfl) rfl (by omega) dL_law_556 ?_
  rintro v1 h1 ⟨rfl, ⟨G1, z1⟩, fo1, out1⟩
  simp only [Option.toList_some, List.cons_append, List.nil_append]
  have kr : KR s (smUndo c1 s) := smUndo_K hI hT
  have mp1 : MP h1 q2 A F := mp.fr fo1 (fun a y u => u y)
  have nn := @smUndo_b s c1
  generalize hS : smUndo c1 s = S at z1 out1 kr nn ⊢
  refine V_istore (pc := 559) X [(6, .int _), (5, .int _), (0, .ref _), (1, .ref _), (2, .ref _), (3, .ref _), (4, .ref _)] dL_law_559 (by decide) rfl ?_
  refine V_aload_n (pc := 561) X 4 dL_law_561 rfl ?_
  refine V_aload_n (pc := 562) X 2 dL_law_562 rfl ?_
  refine V_iload (pc := 563) X 1 dL_law_563 rfl ?_
  refine V_iconst (pc := 565) (v := 1) X dL_law_565 (by decide) ?_
  refine V_iadd (pc := 566) X dL_law_566 ?_
  rw [nI_1]
  refine V_sld (pc := 567) X hX hbl hbA (vp_in_nI (show i + 1 < L by omega) (by omega)) dL_law_567 ?_
  rw [← hc1]
  refine V_callV (pc := 568) X clk9 (by decide) mp1.k _ (n_undo mp1 rm hI hT hC) cw_L_150 (hRm _ _ (by decide) (by decide)) rfl (Nat.le_of_ble_eq_true rfl) rfl (by omega) dL_law_568 (fun _ _ z => z.elim) ?_
  rintro v2 h2 nk
  rw [hS] at nk
  obtain ⟨⟨F2, mp2, fm2, rm2, t2⟩, u, rfl, hu⟩ := nk
  have ls2 : LSt h2 q q2 o1 o2 A S.2.2 := LSt.next z1 fo1 fm2 mp2 rm2 kr.1 kr.2.1 ko1 oo1 ko2 oo2
  simp only [Option.toList_some, List.cons_append, List.nil_append]
  refine V_istore (pc := 571) X [(7, .int _), (6, .int _), (5, .int _), (0, .ref _), (1, .ref _), (2, .ref _), (3, .ref _), (4, .ref _)] dL_law_571 (by decide) rfl ?_
  refine V_aload_n (pc := 573) X 5 dL_law_573 rfl ?_
  refine V_callV (pc := 574) X clk9 (by decide) mp2.k _ (m_thrown mp2) cw_L_129 (hRm _ _ (by decide) (by decide)) rfl (Nat.le_of_ble_eq_true rfl) rfl (by omega) dL_law_574 (fun _ _ z => z.elim) ?_
  rintro v3 h3 ⟨rfl, e3⟩
  rw [e3, t2]
  simp only [Option.toList_some, List.cons_append, List.nil_append]
  refine V_iload (pc := 577) X 1 dL_law_577 rfl ?_
  refine V_icmp_eq (pc := 579) X 584 dL_law_579 (by decide) (fun c579 => ?_) (fun c579 => ?_)
  · refine V_iload (pc := 584) X 1 dL_law_584 rfl ?_
    refine V_if_ne (pc := 586) X 608 dL_law_586 (by decide) (fun c586 => ?_) (fun c586 => ?_)
    · refine V_goto (pc := 608) X 2123 dL_law_608 (by decide) ?_
      refine V.sub [2, 3, 4, 5, 6, 7] rfl (V.less (b' := 335 * (L - (i + 4)) + Ph S.2.2) (by have := kr.2.2.1; omega) (fin _ _ ls2))
    · have hS0 : S.1 = 0 := (nI_eq (b := 0) (by have := kr.2.2.2; omega) (by decide)).mp c586
      have ou : qF h2 1600 o1 = .long u.toInt64 := LSt.out fo1 fm2 ko1 (by decide) oo1 (by rw [out1 hS0, ← hu hS0]; rfl)
      have nb := nn hS0 (hu hS0)
      refine V_aload_n (pc := 589) X 6 dL_law_589 rfl ?_
      refine V_iconst (pc := 590) (v := 0) X dL_law_590 (by decide) ?_
      refine V_lald (pc := 591) X ls2.2.2.2.2.1 ou dL_law_591 ?_
      refine V_iload (pc := 592) X 0 dL_law_592 rfl ?_
      refine V_if_eq (pc := 594) X 601 dL_law_594 (by decide) (fun c594 => ?_) (fun c594 => ?_)
      · subst c594
        refine V_lconst (pc := 601) (v := 0) X dL_law_601 (by decide) ?_
        refine V_lcmp (pc := 602) X dL_law_602 ?_
        refine V_if_eq (pc := 603) X 608 dL_law_603 (by decide) (fun c603 => ?_) (fun c603 => ?_)
        · refine V_goto (pc := 608) X 2123 dL_law_608 (by decide) ?_
          refine V.sub [2, 3, 4, 5, 6, 7] rfl (V.less (b' := 335 * (L - (i + 4)) + Ph S.2.2) (by have := kr.2.2.1; omega) (fin _ _ ls2))
        · exact absurd (by decide) c603
      · obtain rfl : u = 1 := nb.elim (fun y => absurd y c594) id
        refine V_lconst (pc := 597) (v := 1) X dL_law_597 (by decide) ?_
        refine V_goto (pc := 598) X 602 dL_law_598 (by decide) ?_
        refine V_lcmp (pc := 602) X dL_law_602 ?_
        refine V_if_eq (pc := 603) X 608 dL_law_603 (by decide) (fun c603 => ?_) (fun c603 => ?_)
        · refine V_goto (pc := 608) X 2123 dL_law_608 (by decide) ?_
          refine V.sub [2, 3, 4, 5, 6, 7] rfl (V.less (b' := 335 * (L - (i + 4)) + Ph S.2.2) (by have := kr.2.2.1; omega) (fin _ _ ls2))
        · exact absurd (by decide) c603
  · exact absurd rfl c579
theorem cs_deliverUp {E : EV} {Γ : VG} {b0 L : Nat} {xs : Nat → Int32} (lw : LW E Γ b0 L xs) {h : AH} {q q2 o1 o2 i : Nat} {A : Nat → Nat} {s : SQ} (hi : i + 4 ≤ L) (ls : LSt h q q2 o1 o2 A s) (fin : ∀ (h2 : AH) (s2 : SQ), LSt h2 q q2 o1 o2 A s2 → V E Γ (335 * (L - (i + 4)) + Ph s2) h2 2123 [(5, .int (nI i)), (0, .ref b0), (1, .ref q), (2, .ref q2), (3, .ref o1), (4, .ref o2)] []) : V E Γ (335 * (L - i) + Ph s) h 611 [(5, .int (nI i)), (0, .ref b0), (1, .ref q), (2, .ref q2), (3, .ref o1), (4, .ref o2)] [] := by
  obtain ⟨X, nx, hX, hbl, hbA, hRm, hL, -⟩ := lw
  obtain ⟨⟨G, z⟩, ⟨F, mp, rm⟩, hI, hT, ko1, oo1, ko2, oo2⟩ := ls
  have hC := z.codes
  have w := hI.ws
  obtain ⟨c1, hc1⟩ : ∃ c, c = xs (nI (i + 1)).toNatClampNeg := ⟨_, rfl⟩
  obtain ⟨c2, hc2⟩ : ∃ c, c = xs (nI (i + 2)).toNatClampNeg := ⟨_, rfl⟩
  obtain ⟨c3, hc3⟩ : ∃ c, c = xs (nI (i + 3)).toNatClampNeg := ⟨_, rfl⟩
  obtain ⟨d2, hd2⟩ : ∃ d, d = (c2.toUInt32 % 65536).toInt32 := ⟨_, rfl⟩
  obtain ⟨d3, hd3⟩ : ∃ d, d = (c3.toUInt32 % 65536).toInt32 := ⟨_, rfl⟩
  refine V_aload_n (pc := 611) X 2 dL_law_611 rfl ?_
  refine V_aload_n (pc := 612) X 1 dL_law_612 rfl ?_
  refine V_iload (pc := 613) X 0 dL_law_613 rfl ?_
  refine V_iconst (pc := 615) (v := 1) X dL_law_615 (by decide) ?_
  refine V_iadd (pc := 616) X dL_law_616 ?_
  rw [nI_1]
  refine V_sld (pc := 617) X hX hbl hbA (vp_in_nI (show i + 1 < L by omega) (by omega)) dL_law_617 ?_
  rw [← hc1]
  refine V_aload_n (pc := 618) X 4 dL_law_618 rfl ?_
  refine V_callW (pc := 619) X nx _ (k_deliverUp (a1 := c1) z hI ko1 oo1) cw_L_151 (hRm _ _ (by decide) (by decide)) rfl (Nat.le_of_ble_eq_true rfl) rfl (by omega) dL_law_619 ?_
  rintro v1 h1 ⟨rfl, ⟨G1, z1⟩, fo1, out1⟩
  simp only [Option.toList_some, List.cons_append, List.nil_append]
  have kr : KR s (smUp c1 s) := smUp_K hI hT
  have mp1 : MP h1 q2 A F := mp.fr fo1 (fun a y u => u y)
  generalize hS : smUp c1 s = S at z1 out1 kr ⊢
  refine V_istore (pc := 622) X [(6, .int _), (5, .int _), (0, .ref _), (1, .ref _), (2, .ref _), (3, .ref _), (4, .ref _)] dL_law_622 (by decide) rfl ?_
  refine V_aload_n (pc := 624) X 4 dL_law_624 rfl ?_
  refine V_aload_n (pc := 625) X 2 dL_law_625 rfl ?_
  refine V_iload (pc := 626) X 1 dL_law_626 rfl ?_
  refine V_iconst (pc := 628) (v := 1) X dL_law_628 (by decide) ?_
  refine V_iadd (pc := 629) X dL_law_629 ?_
  rw [nI_1]
  refine V_sld (pc := 630) X hX hbl hbA (vp_in_nI (show i + 1 < L by omega) (by omega)) dL_law_630 ?_
  rw [← hc1]
  refine V_callV (pc := 631) X clk9 (by decide) mp1.k _ (n_deliverUp mp1 rm hI hT hC) cw_L_153 (hRm _ _ (by decide) (by decide)) rfl (Nat.le_of_ble_eq_true rfl) rfl (by omega) dL_law_631 (fun _ _ z => z.elim) ?_
  rintro v2 h2 nk
  rw [hS] at nk
  obtain ⟨⟨F2, mp2, fm2, rm2, t2⟩, u, rfl, hu⟩ := nk
  have ls2 : LSt h2 q q2 o1 o2 A S.2.2 := LSt.next z1 fo1 fm2 mp2 rm2 kr.1 kr.2.1 ko1 oo1 ko2 oo2
  simp only [Option.toList_some, List.cons_append, List.nil_append]
  refine V_istore (pc := 634) X [(7, .int _), (6, .int _), (5, .int _), (0, .ref _), (1, .ref _), (2, .ref _), (3, .ref _), (4, .ref _)] dL_law_634 (by decide) rfl ?_
  refine V_aload_n (pc := 636) X 5 dL_law_636 rfl ?_
  refine V_callV (pc := 637) X clk9 (by decide) mp2.k _ (m_thrown mp2) cw_L_129 (hRm _ _ (by decide) (by decide)) rfl (Nat.le_of_ble_eq_true rfl) rfl (by omega) dL_law_637 (fun _ _ z => z.elim) ?_
  rintro v3 h3 ⟨rfl, e3⟩
  rw [e3, t2]
  simp only [Option.toList_some, List.cons_append, List.nil_append]
  refine V_iload (pc := 640) X 1 dL_law_640 rfl ?_
  refine V_icmp_eq (pc := 642) X 647 dL_law_642 (by decide) (fun c642 => ?_) (fun c642 => ?_)
  · refine V_iload (pc := 647) X 1 dL_law_647 rfl ?_
    refine V_if_ne (pc := 649) X 664 dL_law_649 (by decide) (fun c649 => ?_) (fun c649 => ?_)
    · refine V_goto (pc := 664) X 2123 dL_law_664 (by decide) ?_
      refine V.sub [2, 3, 4, 5, 6, 7] rfl (V.less (b' := 335 * (L - (i + 4)) + Ph S.2.2) (by have := kr.2.2.1; omega) (fin _ _ ls2))
    · have hS0 : S.1 = 0 := (nI_eq (b := 0) (by have := kr.2.2.2; omega) (by decide)).mp c649
      have ou : qF h2 1600 o1 = .long u.toInt64 := LSt.out fo1 fm2 ko1 (by decide) oo1 (by rw [out1 hS0, ← hu hS0]; rfl)
      refine V_aload_n (pc := 652) X 6 dL_law_652 rfl ?_
      refine V_iconst (pc := 653) (v := 0) X dL_law_653 (by decide) ?_
      refine V_lald (pc := 654) X ls2.2.2.2.2.1 ou dL_law_654 ?_
      refine V_iload (pc := 655) X 0 dL_law_655 rfl ?_
      refine V_i2l (pc := 657) X dL_law_657 ?_
      refine V_lcmp (pc := 658) X dL_law_658 ?_
      refine V_if_eq (pc := 659) X 664 dL_law_659 (by decide) (fun c659 => ?_) (fun c659 => ?_)
      · refine V_goto (pc := 664) X 2123 dL_law_664 (by decide) ?_
        refine V.sub [2, 3, 4, 5, 6, 7] rfl (V.less (b' := 335 * (L - (i + 4)) + Ph S.2.2) (by have := kr.2.2.1; omega) (fin _ _ ls2))
      · exact absurd (lg_cmp_self _) c659
  · exact absurd rfl c642
theorem cs_deliverDown {E : EV} {Γ : VG} {b0 L : Nat} {xs : Nat → Int32} (lw : LW E Γ b0 L xs) {h : AH} {q q2 o1 o2 i : Nat} {A : Nat → Nat} {s : SQ} (hi : i + 4 ≤ L) (ls : LSt h q q2 o1 o2 A s) (fin : ∀ (h2 : AH) (s2 : SQ), LSt h2 q q2 o1 o2 A s2 → V E Γ (335 * (L - (i + 4)) + Ph s2) h2 2123 [(5, .int (nI i)), (0, .ref b0), (1, .ref q), (2, .ref q2), (3, .ref o1), (4, .ref o2)] []) : V E Γ (335 * (L - i) + Ph s) h 667 [(5, .int (nI i)), (0, .ref b0), (1, .ref q), (2, .ref q2), (3, .ref o1), (4, .ref o2)] [] := by
  obtain ⟨X, nx, hX, hbl, hbA, hRm, hL, -⟩ := lw
  obtain ⟨⟨G, z⟩, ⟨F, mp, rm⟩, hI, hT, ko1, oo1, ko2, oo2⟩ := ls
  have hC := z.codes
  have w := hI.ws
  obtain ⟨c1, hc1⟩ : ∃ c, c = xs (nI (i + 1)).toNatClampNeg := ⟨_, rfl⟩
  obtain ⟨c2, hc2⟩ : ∃ c, c = xs (nI (i + 2)).toNatClampNeg := ⟨_, rfl⟩
  obtain ⟨c3, hc3⟩ : ∃ c, c = xs (nI (i + 3)).toNatClampNeg := ⟨_, rfl⟩
  obtain ⟨d2, hd2⟩ : ∃ d, d = (c2.toUInt32 % 65536).toInt32 := ⟨_, rfl⟩
  obtain ⟨d3, hd3⟩ : ∃ d, d = (c3.toUInt32 % 65536).toInt32 := ⟨_, rfl⟩
  obtain ⟨B, hB, hB0, hB2, hB3⟩ := down_B hI c1
  refine V_aload_n (pc := 667) X 2 dL_law_667 rfl ?_
  refine V_aload_n (pc := 668) X 1 dL_law_668 rfl ?_
  refine V_iload (pc := 669) X 0 dL_law_669 rfl ?_
  refine V_iconst (pc := 671) (v := 1) X dL_law_671 (by decide) ?_
  refine V_iadd (pc := 672) X dL_law_672 ?_
  rw [nI_1]
  refine V_sld (pc := 673) X hX hbl hbA (vp_in_nI (show i + 1 < L by omega) (by omega)) dL_law_673 ?_
  rw [← hc1]
  refine V_aload_n (pc := 674) X 4 dL_law_674 rfl ?_
  refine V_callW (pc := 675) X nx _ (k_deliverDown (a1 := c1) z hI ko1 oo1 hB hB0) cw_L_154 (hRm _ _ (by decide) (by decide)) rfl (Nat.le_of_ble_eq_true rfl) rfl (by omega) dL_law_675 ?_
  rintro v1 h1 ⟨rfl, ⟨G1, z1⟩, fo1, out1⟩
  simp only [Option.toList_some, List.cons_append, List.nil_append]
  have kr : KR s (smDown c1 s) := smDown_K hI hT
  have mp1 : MP h1 q2 A F := mp.fr fo1 (fun a y u => u y)
  generalize hS : smDown c1 s = S at z1 out1 kr hB2 ⊢
  refine V_istore (pc := 678) X [(6, .int _), (5, .int _), (0, .ref _), (1, .ref _), (2, .ref _), (3, .ref _), (4, .ref _)] dL_law_678 (by decide) rfl ?_
  refine V_aload_n (pc := 680) X 4 dL_law_680 rfl ?_
  refine V_aload_n (pc := 681) X 2 dL_law_681 rfl ?_
  refine V_iload (pc := 682) X 1 dL_law_682 rfl ?_
  refine V_iconst (pc := 684) (v := 1) X dL_law_684 (by decide) ?_
  refine V_iadd (pc := 685) X dL_law_685 ?_
  rw [nI_1]
  refine V_sld (pc := 686) X hX hbl hbA (vp_in_nI (show i + 1 < L by omega) (by omega)) dL_law_686 ?_
  rw [← hc1]
  refine V_callV (pc := 687) X clk9 (by decide) mp1.k _ (n_deliverDown mp1 rm hI hT hC) cw_L_156 (hRm _ _ (by decide) (by decide)) rfl (Nat.le_of_ble_eq_true rfl) rfl (by omega) dL_law_687 (fun _ _ z => z.elim) ?_
  rintro v2 h2 nk
  rw [hS] at nk
  obtain ⟨⟨F2, mp2, fm2, rm2, t2⟩, u, rfl, hu⟩ := nk
  have ls2 : LSt h2 q q2 o1 o2 A S.2.2 := LSt.next z1 fo1 fm2 mp2 rm2 kr.1 kr.2.1 ko1 oo1 ko2 oo2
  simp only [Option.toList_some, List.cons_append, List.nil_append]
  refine V_istore (pc := 690) X [(7, .int _), (6, .int _), (5, .int _), (0, .ref _), (1, .ref _), (2, .ref _), (3, .ref _), (4, .ref _)] dL_law_690 (by decide) rfl ?_
  refine V_aload_n (pc := 692) X 5 dL_law_692 rfl ?_
  refine V_callV (pc := 693) X clk9 (by decide) mp2.k _ (m_thrown mp2) cw_L_129 (hRm _ _ (by decide) (by decide)) rfl (Nat.le_of_ble_eq_true rfl) rfl (by omega) dL_law_693 (fun _ _ z => z.elim) ?_
  rintro v3 h3 ⟨rfl, e3⟩
  rw [e3, t2]
  simp only [Option.toList_some, List.cons_append, List.nil_append]
  refine V_iload (pc := 696) X 1 dL_law_696 rfl ?_
  refine V_icmp_eq (pc := 698) X 703 dL_law_698 (by decide) (fun c698 => ?_) (fun c698 => ?_)
  · refine V_iload (pc := 703) X 1 dL_law_703 rfl ?_
    refine V_if_ne (pc := 705) X 720 dL_law_705 (by decide) (fun c705 => ?_) (fun c705 => ?_)
    · refine V_goto (pc := 720) X 2123 dL_law_720 (by decide) ?_
      refine V.sub [2, 3, 4, 5, 6, 7] rfl (V.less (b' := 335 * (L - (i + 4)) + Ph S.2.2) (by have := hB2; omega) (fin _ _ ls2))
    · have hS0 : S.1 = 0 := (nI_eq (b := 0) (by have := kr.2.2.2; omega) (by decide)).mp c705
      have ou : qF h2 1600 o1 = .long u.toInt64 := LSt.out fo1 fm2 ko1 (by decide) oo1 (by rw [out1 hS0, ← hu hS0]; rfl)
      refine V_aload_n (pc := 708) X 6 dL_law_708 rfl ?_
      refine V_iconst (pc := 709) (v := 0) X dL_law_709 (by decide) ?_
      refine V_lald (pc := 710) X ls2.2.2.2.2.1 ou dL_law_710 ?_
      refine V_iload (pc := 711) X 0 dL_law_711 rfl ?_
      refine V_i2l (pc := 713) X dL_law_713 ?_
      refine V_lcmp (pc := 714) X dL_law_714 ?_
      refine V_if_eq (pc := 715) X 720 dL_law_715 (by decide) (fun c715 => ?_) (fun c715 => ?_)
      · refine V_goto (pc := 720) X 2123 dL_law_720 (by decide) ?_
        refine V.sub [2, 3, 4, 5, 6, 7] rfl (V.less (b' := 335 * (L - (i + 4)) + Ph S.2.2) (by have := hB2; omega) (fin _ _ ls2))
      · exact absurd (lg_cmp_self _) c715
  · exact absurd rfl c698
theorem cs_deliverAll {E : EV} {Γ : VG} {b0 L : Nat} {xs : Nat → Int32} (lw : LW E Γ b0 L xs) {h : AH} {q q2 o1 o2 i : Nat} {A : Nat → Nat} {s : SQ} (hi : i + 4 ≤ L) (ls : LSt h q q2 o1 o2 A s) (fin : ∀ (h2 : AH) (s2 : SQ), LSt h2 q q2 o1 o2 A s2 → V E Γ (335 * (L - (i + 4)) + Ph s2) h2 2123 [(5, .int (nI i)), (0, .ref b0), (1, .ref q), (2, .ref q2), (3, .ref o1), (4, .ref o2)] []) : V E Γ (335 * (L - i) + Ph s) h 723 [(5, .int (nI i)), (0, .ref b0), (1, .ref q), (2, .ref q2), (3, .ref o1), (4, .ref o2)] [] := by
  obtain ⟨X, nx, hX, hbl, hbA, hRm, hL, -⟩ := lw
  obtain ⟨⟨G, z⟩, ⟨F, mp, rm⟩, hI, hT, ko1, oo1, ko2, oo2⟩ := ls
  have hC := z.codes
  have w := hI.ws
  obtain ⟨c1, hc1⟩ : ∃ c, c = xs (nI (i + 1)).toNatClampNeg := ⟨_, rfl⟩
  obtain ⟨c2, hc2⟩ : ∃ c, c = xs (nI (i + 2)).toNatClampNeg := ⟨_, rfl⟩
  obtain ⟨c3, hc3⟩ : ∃ c, c = xs (nI (i + 3)).toNatClampNeg := ⟨_, rfl⟩
  obtain ⟨d2, hd2⟩ : ∃ d, d = (c2.toUInt32 % 65536).toInt32 := ⟨_, rfl⟩
  obtain ⟨d3, hd3⟩ : ∃ d, d = (c3.toUInt32 % 65536).toInt32 := ⟨_, rfl⟩
  refine V_aload_n (pc := 723) X 2 dL_law_723 rfl ?_
  refine V_callV (pc := 724) X clk8 (by decide) z.k _ (x_deliverAll z hI) cw_L_157 (hRm _ _ (by decide) (by decide)) rfl (Nat.le_of_ble_eq_true rfl) rfl (by omega) dL_law_724 (fun _ _ z => z.elim) ?_
  rintro v1 h1 ⟨rfl, z1, fc1⟩
  have ok := dAll_ok _ _ (Nat.le_refl _) hI
  have okT := dAll_T hI hT
  have mp1 : MP h1 q2 A F := mp.fr fc1 (fun a y u => u (Or.inl y))
  simp only [Option.toList_some, List.cons_append, List.nil_append]
  refine V_aload_n (pc := 727) X 3 dL_law_727 rfl ?_
  refine V_callV (pc := 728) X clk9 (by decide) mp1.k _ (y_deliverAll mp1 rm hI hT) cw_L_160 (hRm _ _ (by decide) (by decide)) rfl (Nat.le_of_ble_eq_true rfl) rfl (by omega) dL_law_728 (fun _ _ z => z.elim) ?_
  rintro v2 h2 ⟨rfl, F2, mp2, fm2, rm2, t2⟩
  have ls2 : LSt h2 q q2 o1 o2 A (dAll s).2 := LSt.next z1 fc1.fo fm2 mp2 (by rw [okT.2]; exact rm2) ok.1 okT.1 ko1 oo1 ko2 oo2
  simp only [Option.toList_some, List.cons_append, List.nil_append]
  refine V_icmp_eq (pc := 731) X 2123 dL_law_731 (by decide) (fun c731 => ?_) (fun c731 => ?_)
  · exact V.less (b' := 335 * (L - (i + 4)) + Ph (dAll s).2) (by have := ok.2.2.1; omega) (fin _ _ ls2)
  · exact absurd rfl c731
theorem cs_length {E : EV} {Γ : VG} {b0 L : Nat} {xs : Nat → Int32} (lw : LW E Γ b0 L xs) {h : AH} {q q2 o1 o2 i : Nat} {A : Nat → Nat} {s : SQ} (hi : i + 4 ≤ L) (ls : LSt h q q2 o1 o2 A s) (fin : ∀ (h2 : AH) (s2 : SQ), LSt h2 q q2 o1 o2 A s2 → V E Γ (335 * (L - (i + 4)) + Ph s2) h2 2123 [(5, .int (nI i)), (0, .ref b0), (1, .ref q), (2, .ref q2), (3, .ref o1), (4, .ref o2)] []) : V E Γ (335 * (L - i) + Ph s) h 736 [(5, .int (nI i)), (0, .ref b0), (1, .ref q), (2, .ref q2), (3, .ref o1), (4, .ref o2)] [] := by
  obtain ⟨X, nx, hX, hbl, hbA, hRm, hL, -⟩ := lw
  obtain ⟨⟨G, z⟩, ⟨F, mp, rm⟩, hI, hT, ko1, oo1, ko2, oo2⟩ := ls
  have hC := z.codes
  have w := hI.ws
  obtain ⟨c1, hc1⟩ : ∃ c, c = xs (nI (i + 1)).toNatClampNeg := ⟨_, rfl⟩
  obtain ⟨c2, hc2⟩ : ∃ c, c = xs (nI (i + 2)).toNatClampNeg := ⟨_, rfl⟩
  obtain ⟨c3, hc3⟩ : ∃ c, c = xs (nI (i + 3)).toNatClampNeg := ⟨_, rfl⟩
  obtain ⟨d2, hd2⟩ : ∃ d, d = (c2.toUInt32 % 65536).toInt32 := ⟨_, rfl⟩
  obtain ⟨d3, hd3⟩ : ∃ d, d = (c3.toUInt32 % 65536).toInt32 := ⟨_, rfl⟩
  refine V_aload_n (pc := 736) X 2 dL_law_736 rfl ?_
  refine V_aload_n (pc := 737) X 1 dL_law_737 rfl ?_
  refine V_iload (pc := 738) X 0 dL_law_738 rfl ?_
  refine V_iconst (pc := 740) (v := 1) X dL_law_740 (by decide) ?_
  refine V_iadd (pc := 741) X dL_law_741 ?_
  rw [nI_1]
  refine V_sld (pc := 742) X hX hbl hbA (vp_in_nI (show i + 1 < L by omega) (by omega)) dL_law_742 ?_
  rw [← hc1]
  refine V_aload_n (pc := 743) X 4 dL_law_743 rfl ?_
  refine V_callW (pc := 744) X nx _ (k_length (a1 := c1) z hI ko1 oo1) cw_L_161 (hRm _ _ (by decide) (by decide)) rfl (Nat.le_of_ble_eq_true rfl) rfl (by omega) dL_law_744 ?_
  rintro v1 h1 ⟨rfl, ⟨G1, z1⟩, fo1, out1⟩
  simp only [Option.toList_some, List.cons_append, List.nil_append]
  have kr : KR s (smG (fun e => .int (nI ((eX (zE s e)).length))) c1 s) := smG_K hI hT
  have mp1 : MP h1 q2 A F := mp.fr fo1 (fun a y u => u y)
  generalize hS : smG (fun e => .int (nI ((eX (zE s e)).length))) c1 s = S at z1 out1 kr ⊢
  refine V_istore (pc := 747) X [(6, .int _), (5, .int _), (0, .ref _), (1, .ref _), (2, .ref _), (3, .ref _), (4, .ref _)] dL_law_747 (by decide) rfl ?_
  refine V_aload_n (pc := 749) X 4 dL_law_749 rfl ?_
  refine V_aload_n (pc := 750) X 2 dL_law_750 rfl ?_
  refine V_iload (pc := 751) X 1 dL_law_751 rfl ?_
  refine V_iconst (pc := 753) (v := 1) X dL_law_753 (by decide) ?_
  refine V_iadd (pc := 754) X dL_law_754 ?_
  rw [nI_1]
  refine V_sld (pc := 755) X hX hbl hbA (vp_in_nI (show i + 1 < L by omega) (by omega)) dL_law_755 ?_
  rw [← hc1]
  refine V_callV (pc := 756) X clk9 (by decide) mp1.k _ (n_length mp1 rm hI hT hC) cw_L_163 (hRm _ _ (by decide) (by decide)) rfl (Nat.le_of_ble_eq_true rfl) rfl (by omega) dL_law_756 (fun _ _ z => z.elim) ?_
  rintro v2 h2 nk
  rw [hS] at nk
  obtain ⟨⟨F2, mp2, fm2, rm2, t2⟩, u, rfl, hu⟩ := nk
  have ls2 : LSt h2 q q2 o1 o2 A S.2.2 := LSt.next z1 fo1 fm2 mp2 rm2 kr.1 kr.2.1 ko1 oo1 ko2 oo2
  simp only [Option.toList_some, List.cons_append, List.nil_append]
  refine V_istore (pc := 759) X [(7, .int _), (6, .int _), (5, .int _), (0, .ref _), (1, .ref _), (2, .ref _), (3, .ref _), (4, .ref _)] dL_law_759 (by decide) rfl ?_
  refine V_aload_n (pc := 761) X 5 dL_law_761 rfl ?_
  refine V_callV (pc := 762) X clk9 (by decide) mp2.k _ (m_thrown mp2) cw_L_129 (hRm _ _ (by decide) (by decide)) rfl (Nat.le_of_ble_eq_true rfl) rfl (by omega) dL_law_762 (fun _ _ z => z.elim) ?_
  rintro v3 h3 ⟨rfl, e3⟩
  rw [e3, t2]
  simp only [Option.toList_some, List.cons_append, List.nil_append]
  refine V_iload (pc := 765) X 1 dL_law_765 rfl ?_
  refine V_icmp_eq (pc := 767) X 772 dL_law_767 (by decide) (fun c767 => ?_) (fun c767 => ?_)
  · refine V_iload (pc := 772) X 1 dL_law_772 rfl ?_
    refine V_if_ne (pc := 774) X 789 dL_law_774 (by decide) (fun c774 => ?_) (fun c774 => ?_)
    · refine V_goto (pc := 789) X 2123 dL_law_789 (by decide) ?_
      refine V.sub [2, 3, 4, 5, 6, 7] rfl (V.less (b' := 335 * (L - (i + 4)) + Ph S.2.2) (by have := kr.2.2.1; omega) (fin _ _ ls2))
    · have hS0 : S.1 = 0 := (nI_eq (b := 0) (by have := kr.2.2.2; omega) (by decide)).mp c774
      have ou : qF h2 1600 o1 = .long u.toInt64 := LSt.out fo1 fm2 ko1 (by decide) oo1 (by rw [out1 hS0, ← hu hS0]; rfl)
      refine V_aload_n (pc := 777) X 6 dL_law_777 rfl ?_
      refine V_iconst (pc := 778) (v := 0) X dL_law_778 (by decide) ?_
      refine V_lald (pc := 779) X ls2.2.2.2.2.1 ou dL_law_779 ?_
      refine V_iload (pc := 780) X 0 dL_law_780 rfl ?_
      refine V_i2l (pc := 782) X dL_law_782 ?_
      refine V_lcmp (pc := 783) X dL_law_783 ?_
      refine V_if_eq (pc := 784) X 789 dL_law_784 (by decide) (fun c784 => ?_) (fun c784 => ?_)
      · refine V_goto (pc := 789) X 2123 dL_law_789 (by decide) ?_
        refine V.sub [2, 3, 4, 5, 6, 7] rfl (V.less (b' := 335 * (L - (i + 4)) + Ph S.2.2) (by have := kr.2.2.1; omega) (fin _ _ ls2))
      · exact absurd (lg_cmp_self _) c784
  · exact absurd rfl c767
theorem cs_charAt {E : EV} {Γ : VG} {b0 L : Nat} {xs : Nat → Int32} (lw : LW E Γ b0 L xs) {h : AH} {q q2 o1 o2 i : Nat} {A : Nat → Nat} {s : SQ} (hi : i + 4 ≤ L) (ls : LSt h q q2 o1 o2 A s) (fin : ∀ (h2 : AH) (s2 : SQ), LSt h2 q q2 o1 o2 A s2 → V E Γ (335 * (L - (i + 4)) + Ph s2) h2 2123 [(5, .int (nI i)), (0, .ref b0), (1, .ref q), (2, .ref q2), (3, .ref o1), (4, .ref o2)] []) : V E Γ (335 * (L - i) + Ph s) h 792 [(5, .int (nI i)), (0, .ref b0), (1, .ref q), (2, .ref q2), (3, .ref o1), (4, .ref o2)] [] := by
  obtain ⟨X, nx, hX, hbl, hbA, hRm, hL, -⟩ := lw
  obtain ⟨⟨G, z⟩, ⟨F, mp, rm⟩, hI, hT, ko1, oo1, ko2, oo2⟩ := ls
  have hC := z.codes
  have w := hI.ws
  obtain ⟨c1, hc1⟩ : ∃ c, c = xs (nI (i + 1)).toNatClampNeg := ⟨_, rfl⟩
  obtain ⟨c2, hc2⟩ : ∃ c, c = xs (nI (i + 2)).toNatClampNeg := ⟨_, rfl⟩
  obtain ⟨c3, hc3⟩ : ∃ c, c = xs (nI (i + 3)).toNatClampNeg := ⟨_, rfl⟩
  obtain ⟨d2, hd2⟩ : ∃ d, d = (c2.toUInt32 % 65536).toInt32 := ⟨_, rfl⟩
  obtain ⟨d3, hd3⟩ : ∃ d, d = (c3.toUInt32 % 65536).toInt32 := ⟨_, rfl⟩
  refine V_aload_n (pc := 792) X 2 dL_law_792 rfl ?_
  refine V_aload_n (pc := 793) X 1 dL_law_793 rfl ?_
  refine V_iload (pc := 794) X 0 dL_law_794 rfl ?_
  refine V_iconst (pc := 796) (v := 1) X dL_law_796 (by decide) ?_
  refine V_iadd (pc := 797) X dL_law_797 ?_
  rw [nI_1]
  refine V_sld (pc := 798) X hX hbl hbA (vp_in_nI (show i + 1 < L by omega) (by omega)) dL_law_798 ?_
  rw [← hc1]
  refine V_aload_n (pc := 799) X 1 dL_law_799 rfl ?_
  refine V_iload (pc := 800) X 0 dL_law_800 rfl ?_
  refine V_iconst (pc := 802) (v := 2) X dL_law_802 (by decide) ?_
  refine V_iadd (pc := 803) X dL_law_803 ?_
  rw [nI_2]
  refine V_sld (pc := 804) X hX hbl hbA (vp_in_nI (show i + 2 < L by omega) (by omega)) dL_law_804 ?_
  rw [← hc2]
  refine V_aload_n (pc := 805) X 4 dL_law_805 rfl ?_
  refine V_callW (pc := 806) X nx _ (k_charAt (a1 := c1) z hI ko1 oo1) cw_L_164 (hRm _ _ (by decide) (by decide)) rfl (Nat.le_of_ble_eq_true rfl) rfl (by omega) dL_law_806 ?_
  rintro v1 h1 ⟨rfl, ⟨G1, z1⟩, fo1, out1⟩
  simp only [Option.toList_some, List.cons_append, List.nil_append]
  have kr : KR s (smC (fun y => .int (nI (zT s y).1)) c1 c2 s) := smC_K hI hT
  have mp1 : MP h1 q2 A F := mp.fr fo1 (fun a y u => u y)
  generalize hS : smC (fun y => .int (nI (zT s y).1)) c1 c2 s = S at z1 out1 kr ⊢
  refine V_istore (pc := 809) X [(6, .int _), (5, .int _), (0, .ref _), (1, .ref _), (2, .ref _), (3, .ref _), (4, .ref _)] dL_law_809 (by decide) rfl ?_
  refine V_aload_n (pc := 811) X 4 dL_law_811 rfl ?_
  refine V_aload_n (pc := 812) X 2 dL_law_812 rfl ?_
  refine V_iload (pc := 813) X 1 dL_law_813 rfl ?_
  refine V_iconst (pc := 815) (v := 1) X dL_law_815 (by decide) ?_
  refine V_iadd (pc := 816) X dL_law_816 ?_
  rw [nI_1]
  refine V_sld (pc := 817) X hX hbl hbA (vp_in_nI (show i + 1 < L by omega) (by omega)) dL_law_817 ?_
  rw [← hc1]
  refine V_aload_n (pc := 818) X 2 dL_law_818 rfl ?_
  refine V_iload (pc := 819) X 1 dL_law_819 rfl ?_
  refine V_iconst (pc := 821) (v := 2) X dL_law_821 (by decide) ?_
  refine V_iadd (pc := 822) X dL_law_822 ?_
  rw [nI_2]
  refine V_sld (pc := 823) X hX hbl hbA (vp_in_nI (show i + 2 < L by omega) (by omega)) dL_law_823 ?_
  rw [← hc2]
  refine V_callV (pc := 824) X clk9 (by decide) mp1.k _ (n_charAt mp1 rm hI hT hC) cw_L_166 (hRm _ _ (by decide) (by decide)) rfl (Nat.le_of_ble_eq_true rfl) rfl (by omega) dL_law_824 (fun _ _ z => z.elim) ?_
  rintro v2 h2 nk
  rw [hS] at nk
  obtain ⟨⟨F2, mp2, fm2, rm2, t2⟩, u, rfl, hu⟩ := nk
  have ls2 : LSt h2 q q2 o1 o2 A S.2.2 := LSt.next z1 fo1 fm2 mp2 rm2 kr.1 kr.2.1 ko1 oo1 ko2 oo2
  simp only [Option.toList_some, List.cons_append, List.nil_append]
  refine V_istore (pc := 827) X [(7, .int _), (6, .int _), (5, .int _), (0, .ref _), (1, .ref _), (2, .ref _), (3, .ref _), (4, .ref _)] dL_law_827 (by decide) rfl ?_
  refine V_aload_n (pc := 829) X 5 dL_law_829 rfl ?_
  refine V_callV (pc := 830) X clk9 (by decide) mp2.k _ (m_thrown mp2) cw_L_129 (hRm _ _ (by decide) (by decide)) rfl (Nat.le_of_ble_eq_true rfl) rfl (by omega) dL_law_830 (fun _ _ z => z.elim) ?_
  rintro v3 h3 ⟨rfl, e3⟩
  rw [e3, t2]
  simp only [Option.toList_some, List.cons_append, List.nil_append]
  refine V_iload (pc := 833) X 1 dL_law_833 rfl ?_
  refine V_icmp_eq (pc := 835) X 840 dL_law_835 (by decide) (fun c835 => ?_) (fun c835 => ?_)
  · refine V_iload (pc := 840) X 1 dL_law_840 rfl ?_
    refine V_if_ne (pc := 842) X 857 dL_law_842 (by decide) (fun c842 => ?_) (fun c842 => ?_)
    · refine V_goto (pc := 857) X 2123 dL_law_857 (by decide) ?_
      refine V.sub [2, 3, 4, 5, 6, 7] rfl (V.less (b' := 335 * (L - (i + 4)) + Ph S.2.2) (by have := kr.2.2.1; omega) (fin _ _ ls2))
    · have hS0 : S.1 = 0 := (nI_eq (b := 0) (by have := kr.2.2.2; omega) (by decide)).mp c842
      have ou : qF h2 1600 o1 = .long u.toInt64 := LSt.out fo1 fm2 ko1 (by decide) oo1 (by rw [out1 hS0, ← hu hS0]; rfl)
      refine V_aload_n (pc := 845) X 6 dL_law_845 rfl ?_
      refine V_iconst (pc := 846) (v := 0) X dL_law_846 (by decide) ?_
      refine V_lald (pc := 847) X ls2.2.2.2.2.1 ou dL_law_847 ?_
      refine V_iload (pc := 848) X 0 dL_law_848 rfl ?_
      refine V_i2l (pc := 850) X dL_law_850 ?_
      refine V_lcmp (pc := 851) X dL_law_851 ?_
      refine V_if_eq (pc := 852) X 857 dL_law_852 (by decide) (fun c852 => ?_) (fun c852 => ?_)
      · refine V_goto (pc := 857) X 2123 dL_law_857 (by decide) ?_
        refine V.sub [2, 3, 4, 5, 6, 7] rfl (V.less (b' := 335 * (L - (i + 4)) + Ph S.2.2) (by have := kr.2.2.1; omega) (fin _ _ ls2))
      · exact absurd (lg_cmp_self _) c852
  · exact absurd rfl c835
theorem cs_ownerAt {E : EV} {Γ : VG} {b0 L : Nat} {xs : Nat → Int32} (lw : LW E Γ b0 L xs) {h : AH} {q q2 o1 o2 i : Nat} {A : Nat → Nat} {s : SQ} (hi : i + 4 ≤ L) (ls : LSt h q q2 o1 o2 A s) (fin : ∀ (h2 : AH) (s2 : SQ), LSt h2 q q2 o1 o2 A s2 → V E Γ (335 * (L - (i + 4)) + Ph s2) h2 2123 [(5, .int (nI i)), (0, .ref b0), (1, .ref q), (2, .ref q2), (3, .ref o1), (4, .ref o2)] []) : V E Γ (335 * (L - i) + Ph s) h 860 [(5, .int (nI i)), (0, .ref b0), (1, .ref q), (2, .ref q2), (3, .ref o1), (4, .ref o2)] [] := by
  obtain ⟨X, nx, hX, hbl, hbA, hRm, hL, -⟩ := lw
  obtain ⟨⟨G, z⟩, ⟨F, mp, rm⟩, hI, hT, ko1, oo1, ko2, oo2⟩ := ls
  have hC := z.codes
  have w := hI.ws
  obtain ⟨c1, hc1⟩ : ∃ c, c = xs (nI (i + 1)).toNatClampNeg := ⟨_, rfl⟩
  obtain ⟨c2, hc2⟩ : ∃ c, c = xs (nI (i + 2)).toNatClampNeg := ⟨_, rfl⟩
  obtain ⟨c3, hc3⟩ : ∃ c, c = xs (nI (i + 3)).toNatClampNeg := ⟨_, rfl⟩
  obtain ⟨d2, hd2⟩ : ∃ d, d = (c2.toUInt32 % 65536).toInt32 := ⟨_, rfl⟩
  obtain ⟨d3, hd3⟩ : ∃ d, d = (c3.toUInt32 % 65536).toInt32 := ⟨_, rfl⟩
  refine V_aload_n (pc := 860) X 2 dL_law_860 rfl ?_
  refine V_aload_n (pc := 861) X 1 dL_law_861 rfl ?_
  refine V_iload (pc := 862) X 0 dL_law_862 rfl ?_
  refine V_iconst (pc := 864) (v := 1) X dL_law_864 (by decide) ?_
  refine V_iadd (pc := 865) X dL_law_865 ?_
  rw [nI_1]
  refine V_sld (pc := 866) X hX hbl hbA (vp_in_nI (show i + 1 < L by omega) (by omega)) dL_law_866 ?_
  rw [← hc1]
  refine V_aload_n (pc := 867) X 1 dL_law_867 rfl ?_
  refine V_iload (pc := 868) X 0 dL_law_868 rfl ?_
  refine V_iconst (pc := 870) (v := 2) X dL_law_870 (by decide) ?_
  refine V_iadd (pc := 871) X dL_law_871 ?_
  rw [nI_2]
  refine V_sld (pc := 872) X hX hbl hbA (vp_in_nI (show i + 2 < L by omega) (by omega)) dL_law_872 ?_
  rw [← hc2]
  refine V_aload_n (pc := 873) X 4 dL_law_873 rfl ?_
  refine V_callW (pc := 874) X nx _ (k_ownerAt (a1 := c1) z hI ko1 oo1) cw_L_167 (hRm _ _ (by decide) (by decide)) rfl (Nat.le_of_ble_eq_true rfl) rfl (by omega) dL_law_874 ?_
  rintro v1 h1 ⟨rfl, ⟨G1, z1⟩, fo1, out1⟩
  simp only [Option.toList_some, List.cons_append, List.nil_append]
  have kr : KR s (smC (fun y => .int (nI (zT s y).2)) c1 c2 s) := smC_K hI hT
  have mp1 : MP h1 q2 A F := mp.fr fo1 (fun a y u => u y)
  generalize hS : smC (fun y => .int (nI (zT s y).2)) c1 c2 s = S at z1 out1 kr ⊢
  refine V_istore (pc := 877) X [(6, .int _), (5, .int _), (0, .ref _), (1, .ref _), (2, .ref _), (3, .ref _), (4, .ref _)] dL_law_877 (by decide) rfl ?_
  refine V_aload_n (pc := 879) X 4 dL_law_879 rfl ?_
  refine V_aload_n (pc := 880) X 2 dL_law_880 rfl ?_
  refine V_iload (pc := 881) X 1 dL_law_881 rfl ?_
  refine V_iconst (pc := 883) (v := 1) X dL_law_883 (by decide) ?_
  refine V_iadd (pc := 884) X dL_law_884 ?_
  rw [nI_1]
  refine V_sld (pc := 885) X hX hbl hbA (vp_in_nI (show i + 1 < L by omega) (by omega)) dL_law_885 ?_
  rw [← hc1]
  refine V_aload_n (pc := 886) X 2 dL_law_886 rfl ?_
  refine V_iload (pc := 887) X 1 dL_law_887 rfl ?_
  refine V_iconst (pc := 889) (v := 2) X dL_law_889 (by decide) ?_
  refine V_iadd (pc := 890) X dL_law_890 ?_
  rw [nI_2]
  refine V_sld (pc := 891) X hX hbl hbA (vp_in_nI (show i + 2 < L by omega) (by omega)) dL_law_891 ?_
  rw [← hc2]
  refine V_callV (pc := 892) X clk9 (by decide) mp1.k _ (n_ownerAt mp1 rm hI hT hC) cw_L_169 (hRm _ _ (by decide) (by decide)) rfl (Nat.le_of_ble_eq_true rfl) rfl (by omega) dL_law_892 (fun _ _ z => z.elim) ?_
  rintro v2 h2 nk
  rw [hS] at nk
  obtain ⟨⟨F2, mp2, fm2, rm2, t2⟩, u, rfl, hu⟩ := nk
  have ls2 : LSt h2 q q2 o1 o2 A S.2.2 := LSt.next z1 fo1 fm2 mp2 rm2 kr.1 kr.2.1 ko1 oo1 ko2 oo2
  simp only [Option.toList_some, List.cons_append, List.nil_append]
  refine V_istore (pc := 895) X [(7, .int _), (6, .int _), (5, .int _), (0, .ref _), (1, .ref _), (2, .ref _), (3, .ref _), (4, .ref _)] dL_law_895 (by decide) rfl ?_
  refine V_aload_n (pc := 897) X 5 dL_law_897 rfl ?_
  refine V_callV (pc := 898) X clk9 (by decide) mp2.k _ (m_thrown mp2) cw_L_129 (hRm _ _ (by decide) (by decide)) rfl (Nat.le_of_ble_eq_true rfl) rfl (by omega) dL_law_898 (fun _ _ z => z.elim) ?_
  rintro v3 h3 ⟨rfl, e3⟩
  rw [e3, t2]
  simp only [Option.toList_some, List.cons_append, List.nil_append]
  refine V_iload (pc := 901) X 1 dL_law_901 rfl ?_
  refine V_icmp_eq (pc := 903) X 908 dL_law_903 (by decide) (fun c903 => ?_) (fun c903 => ?_)
  · refine V_iload (pc := 908) X 1 dL_law_908 rfl ?_
    refine V_if_ne (pc := 910) X 925 dL_law_910 (by decide) (fun c910 => ?_) (fun c910 => ?_)
    · refine V_goto (pc := 925) X 2123 dL_law_925 (by decide) ?_
      refine V.sub [2, 3, 4, 5, 6, 7] rfl (V.less (b' := 335 * (L - (i + 4)) + Ph S.2.2) (by have := kr.2.2.1; omega) (fin _ _ ls2))
    · have hS0 : S.1 = 0 := (nI_eq (b := 0) (by have := kr.2.2.2; omega) (by decide)).mp c910
      have ou : qF h2 1600 o1 = .long u.toInt64 := LSt.out fo1 fm2 ko1 (by decide) oo1 (by rw [out1 hS0, ← hu hS0]; rfl)
      refine V_aload_n (pc := 913) X 6 dL_law_913 rfl ?_
      refine V_iconst (pc := 914) (v := 0) X dL_law_914 (by decide) ?_
      refine V_lald (pc := 915) X ls2.2.2.2.2.1 ou dL_law_915 ?_
      refine V_iload (pc := 916) X 0 dL_law_916 rfl ?_
      refine V_i2l (pc := 918) X dL_law_918 ?_
      refine V_lcmp (pc := 919) X dL_law_919 ?_
      refine V_if_eq (pc := 920) X 925 dL_law_920 (by decide) (fun c920 => ?_) (fun c920 => ?_)
      · refine V_goto (pc := 925) X 2123 dL_law_925 (by decide) ?_
        refine V.sub [2, 3, 4, 5, 6, 7] rfl (V.less (b' := 335 * (L - (i + 4)) + Ph S.2.2) (by have := kr.2.2.1; omega) (fin _ _ ls2))
      · exact absurd (lg_cmp_self _) c920
  · exact absurd rfl c903
theorem cs_lengthByHistory {E : EV} {Γ : VG} {b0 L : Nat} {xs : Nat → Int32} (lw : LW E Γ b0 L xs) {h : AH} {q q2 o1 o2 i : Nat} {A : Nat → Nat} {s : SQ} (hi : i + 4 ≤ L) (ls : LSt h q q2 o1 o2 A s) (fin : ∀ (h2 : AH) (s2 : SQ), LSt h2 q q2 o1 o2 A s2 → V E Γ (335 * (L - (i + 4)) + Ph s2) h2 2123 [(5, .int (nI i)), (0, .ref b0), (1, .ref q), (2, .ref q2), (3, .ref o1), (4, .ref o2)] []) : V E Γ (335 * (L - i) + Ph s) h 928 [(5, .int (nI i)), (0, .ref b0), (1, .ref q), (2, .ref q2), (3, .ref o1), (4, .ref o2)] [] := by
  obtain ⟨X, nx, hX, hbl, hbA, hRm, hL, -⟩ := lw
  obtain ⟨⟨G, z⟩, ⟨F, mp, rm⟩, hI, hT, ko1, oo1, ko2, oo2⟩ := ls
  have hC := z.codes
  have w := hI.ws
  obtain ⟨c1, hc1⟩ : ∃ c, c = xs (nI (i + 1)).toNatClampNeg := ⟨_, rfl⟩
  obtain ⟨c2, hc2⟩ : ∃ c, c = xs (nI (i + 2)).toNatClampNeg := ⟨_, rfl⟩
  obtain ⟨c3, hc3⟩ : ∃ c, c = xs (nI (i + 3)).toNatClampNeg := ⟨_, rfl⟩
  obtain ⟨d2, hd2⟩ : ∃ d, d = (c2.toUInt32 % 65536).toInt32 := ⟨_, rfl⟩
  obtain ⟨d3, hd3⟩ : ∃ d, d = (c3.toUInt32 % 65536).toInt32 := ⟨_, rfl⟩
  refine V_aload_n (pc := 928) X 2 dL_law_928 rfl ?_
  refine V_aload_n (pc := 929) X 1 dL_law_929 rfl ?_
  refine V_iload (pc := 930) X 0 dL_law_930 rfl ?_
  refine V_iconst (pc := 932) (v := 1) X dL_law_932 (by decide) ?_
  refine V_iadd (pc := 933) X dL_law_933 ?_
  rw [nI_1]
  refine V_sld (pc := 934) X hX hbl hbA (vp_in_nI (show i + 1 < L by omega) (by omega)) dL_law_934 ?_
  rw [← hc1]
  refine V_aload_n (pc := 935) X 4 dL_law_935 rfl ?_
  refine V_callW (pc := 936) X nx _ (k_lengthByHistory (a1 := c1) z hI ko1 oo1) cw_L_170 (hRm _ _ (by decide) (by decide)) rfl (Nat.le_of_ble_eq_true rfl) rfl (by omega) dL_law_936 ?_
  rintro v1 h1 ⟨rfl, ⟨G1, z1⟩, fo1, out1⟩
  simp only [Option.toList_some, List.cons_append, List.nil_append]
  have kr : KR s (smG (fun e => .int (nI ((eX (zE s e)).length))) c1 s) := smG_K hI hT
  have mp1 : MP h1 q2 A F := mp.fr fo1 (fun a y u => u y)
  generalize hS : smG (fun e => .int (nI ((eX (zE s e)).length))) c1 s = S at z1 out1 kr ⊢
  refine V_istore (pc := 939) X [(6, .int _), (5, .int _), (0, .ref _), (1, .ref _), (2, .ref _), (3, .ref _), (4, .ref _)] dL_law_939 (by decide) rfl ?_
  refine V_aload_n (pc := 941) X 4 dL_law_941 rfl ?_
  refine V_aload_n (pc := 942) X 2 dL_law_942 rfl ?_
  refine V_iload (pc := 943) X 1 dL_law_943 rfl ?_
  refine V_iconst (pc := 945) (v := 1) X dL_law_945 (by decide) ?_
  refine V_iadd (pc := 946) X dL_law_946 ?_
  rw [nI_1]
  refine V_sld (pc := 947) X hX hbl hbA (vp_in_nI (show i + 1 < L by omega) (by omega)) dL_law_947 ?_
  rw [← hc1]
  refine V_callV (pc := 948) X clk9 (by decide) mp1.k _ (n_lengthByHistory mp1 rm hI hT hC) cw_L_172 (hRm _ _ (by decide) (by decide)) rfl (Nat.le_of_ble_eq_true rfl) rfl (by omega) dL_law_948 (fun _ _ z => z.elim) ?_
  rintro v2 h2 nk
  rw [hS] at nk
  obtain ⟨⟨F2, mp2, fm2, rm2, t2⟩, u, rfl, hu⟩ := nk
  have ls2 : LSt h2 q q2 o1 o2 A S.2.2 := LSt.next z1 fo1 fm2 mp2 rm2 kr.1 kr.2.1 ko1 oo1 ko2 oo2
  simp only [Option.toList_some, List.cons_append, List.nil_append]
  refine V_istore (pc := 951) X [(7, .int _), (6, .int _), (5, .int _), (0, .ref _), (1, .ref _), (2, .ref _), (3, .ref _), (4, .ref _)] dL_law_951 (by decide) rfl ?_
  refine V_aload_n (pc := 953) X 5 dL_law_953 rfl ?_
  refine V_callV (pc := 954) X clk9 (by decide) mp2.k _ (m_thrown mp2) cw_L_129 (hRm _ _ (by decide) (by decide)) rfl (Nat.le_of_ble_eq_true rfl) rfl (by omega) dL_law_954 (fun _ _ z => z.elim) ?_
  rintro v3 h3 ⟨rfl, e3⟩
  rw [e3, t2]
  simp only [Option.toList_some, List.cons_append, List.nil_append]
  refine V_iload (pc := 957) X 1 dL_law_957 rfl ?_
  refine V_icmp_eq (pc := 959) X 964 dL_law_959 (by decide) (fun c959 => ?_) (fun c959 => ?_)
  · refine V_iload (pc := 964) X 1 dL_law_964 rfl ?_
    refine V_if_ne (pc := 966) X 981 dL_law_966 (by decide) (fun c966 => ?_) (fun c966 => ?_)
    · refine V_goto (pc := 981) X 2123 dL_law_981 (by decide) ?_
      refine V.sub [2, 3, 4, 5, 6, 7] rfl (V.less (b' := 335 * (L - (i + 4)) + Ph S.2.2) (by have := kr.2.2.1; omega) (fin _ _ ls2))
    · have hS0 : S.1 = 0 := (nI_eq (b := 0) (by have := kr.2.2.2; omega) (by decide)).mp c966
      have ou : qF h2 1600 o1 = .long u.toInt64 := LSt.out fo1 fm2 ko1 (by decide) oo1 (by rw [out1 hS0, ← hu hS0]; rfl)
      refine V_aload_n (pc := 969) X 6 dL_law_969 rfl ?_
      refine V_iconst (pc := 970) (v := 0) X dL_law_970 (by decide) ?_
      refine V_lald (pc := 971) X ls2.2.2.2.2.1 ou dL_law_971 ?_
      refine V_iload (pc := 972) X 0 dL_law_972 rfl ?_
      refine V_i2l (pc := 974) X dL_law_974 ?_
      refine V_lcmp (pc := 975) X dL_law_975 ?_
      refine V_if_eq (pc := 976) X 981 dL_law_976 (by decide) (fun c976 => ?_) (fun c976 => ?_)
      · refine V_goto (pc := 981) X 2123 dL_law_981 (by decide) ?_
        refine V.sub [2, 3, 4, 5, 6, 7] rfl (V.less (b' := 335 * (L - (i + 4)) + Ph S.2.2) (by have := kr.2.2.1; omega) (fin _ _ ls2))
      · exact absurd (lg_cmp_self _) c976
  · exact absurd rfl c959
theorem cs_charByHistory {E : EV} {Γ : VG} {b0 L : Nat} {xs : Nat → Int32} (lw : LW E Γ b0 L xs) {h : AH} {q q2 o1 o2 i : Nat} {A : Nat → Nat} {s : SQ} (hi : i + 4 ≤ L) (ls : LSt h q q2 o1 o2 A s) (fin : ∀ (h2 : AH) (s2 : SQ), LSt h2 q q2 o1 o2 A s2 → V E Γ (335 * (L - (i + 4)) + Ph s2) h2 2123 [(5, .int (nI i)), (0, .ref b0), (1, .ref q), (2, .ref q2), (3, .ref o1), (4, .ref o2)] []) : V E Γ (335 * (L - i) + Ph s) h 984 [(5, .int (nI i)), (0, .ref b0), (1, .ref q), (2, .ref q2), (3, .ref o1), (4, .ref o2)] [] := by
  obtain ⟨X, nx, hX, hbl, hbA, hRm, hL, -⟩ := lw
  obtain ⟨⟨G, z⟩, ⟨F, mp, rm⟩, hI, hT, ko1, oo1, ko2, oo2⟩ := ls
  have hC := z.codes
  have w := hI.ws
  obtain ⟨c1, hc1⟩ : ∃ c, c = xs (nI (i + 1)).toNatClampNeg := ⟨_, rfl⟩
  obtain ⟨c2, hc2⟩ : ∃ c, c = xs (nI (i + 2)).toNatClampNeg := ⟨_, rfl⟩
  obtain ⟨c3, hc3⟩ : ∃ c, c = xs (nI (i + 3)).toNatClampNeg := ⟨_, rfl⟩
  obtain ⟨d2, hd2⟩ : ∃ d, d = (c2.toUInt32 % 65536).toInt32 := ⟨_, rfl⟩
  obtain ⟨d3, hd3⟩ : ∃ d, d = (c3.toUInt32 % 65536).toInt32 := ⟨_, rfl⟩
  refine V_aload_n (pc := 984) X 2 dL_law_984 rfl ?_
  refine V_aload_n (pc := 985) X 1 dL_law_985 rfl ?_
  refine V_iload (pc := 986) X 0 dL_law_986 rfl ?_
  refine V_iconst (pc := 988) (v := 1) X dL_law_988 (by decide) ?_
  refine V_iadd (pc := 989) X dL_law_989 ?_
  rw [nI_1]
  refine V_sld (pc := 990) X hX hbl hbA (vp_in_nI (show i + 1 < L by omega) (by omega)) dL_law_990 ?_
  rw [← hc1]
  refine V_aload_n (pc := 991) X 1 dL_law_991 rfl ?_
  refine V_iload (pc := 992) X 0 dL_law_992 rfl ?_
  refine V_iconst (pc := 994) (v := 2) X dL_law_994 (by decide) ?_
  refine V_iadd (pc := 995) X dL_law_995 ?_
  rw [nI_2]
  refine V_sld (pc := 996) X hX hbl hbA (vp_in_nI (show i + 2 < L by omega) (by omega)) dL_law_996 ?_
  rw [← hc2]
  refine V_aload_n (pc := 997) X 4 dL_law_997 rfl ?_
  refine V_callW (pc := 998) X nx _ (k_charByHistory (a1 := c1) z hI ko1 oo1) cw_L_173 (hRm _ _ (by decide) (by decide)) rfl (Nat.le_of_ble_eq_true rfl) rfl (by omega) dL_law_998 ?_
  rintro v1 h1 ⟨rfl, ⟨G1, z1⟩, fo1, out1⟩
  simp only [Option.toList_some, List.cons_append, List.nil_append]
  have kr : KR s (smC (fun y => .int (nI (zT s y).1)) c1 c2 s) := smC_K hI hT
  have mp1 : MP h1 q2 A F := mp.fr fo1 (fun a y u => u y)
  generalize hS : smC (fun y => .int (nI (zT s y).1)) c1 c2 s = S at z1 out1 kr ⊢
  refine V_istore (pc := 1001) X [(6, .int _), (5, .int _), (0, .ref _), (1, .ref _), (2, .ref _), (3, .ref _), (4, .ref _)] dL_law_1001 (by decide) rfl ?_
  refine V_aload_n (pc := 1003) X 4 dL_law_1003 rfl ?_
  refine V_aload_n (pc := 1004) X 2 dL_law_1004 rfl ?_
  refine V_iload (pc := 1005) X 1 dL_law_1005 rfl ?_
  refine V_iconst (pc := 1007) (v := 1) X dL_law_1007 (by decide) ?_
  refine V_iadd (pc := 1008) X dL_law_1008 ?_
  rw [nI_1]
  refine V_sld (pc := 1009) X hX hbl hbA (vp_in_nI (show i + 1 < L by omega) (by omega)) dL_law_1009 ?_
  rw [← hc1]
  refine V_aload_n (pc := 1010) X 2 dL_law_1010 rfl ?_
  refine V_iload (pc := 1011) X 1 dL_law_1011 rfl ?_
  refine V_iconst (pc := 1013) (v := 2) X dL_law_1013 (by decide) ?_
  refine V_iadd (pc := 1014) X dL_law_1014 ?_
  rw [nI_2]
  refine V_sld (pc := 1015) X hX hbl hbA (vp_in_nI (show i + 2 < L by omega) (by omega)) dL_law_1015 ?_
  rw [← hc2]
  refine V_callV (pc := 1016) X clk9 (by decide) mp1.k _ (n_charByHistory mp1 rm hI hT hC) cw_L_175 (hRm _ _ (by decide) (by decide)) rfl (Nat.le_of_ble_eq_true rfl) rfl (by omega) dL_law_1016 (fun _ _ z => z.elim) ?_
  rintro v2 h2 nk
  rw [hS] at nk
  obtain ⟨⟨F2, mp2, fm2, rm2, t2⟩, u, rfl, hu⟩ := nk
  have ls2 : LSt h2 q q2 o1 o2 A S.2.2 := LSt.next z1 fo1 fm2 mp2 rm2 kr.1 kr.2.1 ko1 oo1 ko2 oo2
  simp only [Option.toList_some, List.cons_append, List.nil_append]
  refine V_istore (pc := 1019) X [(7, .int _), (6, .int _), (5, .int _), (0, .ref _), (1, .ref _), (2, .ref _), (3, .ref _), (4, .ref _)] dL_law_1019 (by decide) rfl ?_
  refine V_aload_n (pc := 1021) X 5 dL_law_1021 rfl ?_
  refine V_callV (pc := 1022) X clk9 (by decide) mp2.k _ (m_thrown mp2) cw_L_129 (hRm _ _ (by decide) (by decide)) rfl (Nat.le_of_ble_eq_true rfl) rfl (by omega) dL_law_1022 (fun _ _ z => z.elim) ?_
  rintro v3 h3 ⟨rfl, e3⟩
  rw [e3, t2]
  simp only [Option.toList_some, List.cons_append, List.nil_append]
  refine V_iload (pc := 1025) X 1 dL_law_1025 rfl ?_
  refine V_icmp_eq (pc := 1027) X 1032 dL_law_1027 (by decide) (fun c1027 => ?_) (fun c1027 => ?_)
  · refine V_iload (pc := 1032) X 1 dL_law_1032 rfl ?_
    refine V_if_ne (pc := 1034) X 1049 dL_law_1034 (by decide) (fun c1034 => ?_) (fun c1034 => ?_)
    · refine V_goto (pc := 1049) X 2123 dL_law_1049 (by decide) ?_
      refine V.sub [2, 3, 4, 5, 6, 7] rfl (V.less (b' := 335 * (L - (i + 4)) + Ph S.2.2) (by have := kr.2.2.1; omega) (fin _ _ ls2))
    · have hS0 : S.1 = 0 := (nI_eq (b := 0) (by have := kr.2.2.2; omega) (by decide)).mp c1034
      have ou : qF h2 1600 o1 = .long u.toInt64 := LSt.out fo1 fm2 ko1 (by decide) oo1 (by rw [out1 hS0, ← hu hS0]; rfl)
      refine V_aload_n (pc := 1037) X 6 dL_law_1037 rfl ?_
      refine V_iconst (pc := 1038) (v := 0) X dL_law_1038 (by decide) ?_
      refine V_lald (pc := 1039) X ls2.2.2.2.2.1 ou dL_law_1039 ?_
      refine V_iload (pc := 1040) X 0 dL_law_1040 rfl ?_
      refine V_i2l (pc := 1042) X dL_law_1042 ?_
      refine V_lcmp (pc := 1043) X dL_law_1043 ?_
      refine V_if_eq (pc := 1044) X 1049 dL_law_1044 (by decide) (fun c1044 => ?_) (fun c1044 => ?_)
      · refine V_goto (pc := 1049) X 2123 dL_law_1049 (by decide) ?_
        refine V.sub [2, 3, 4, 5, 6, 7] rfl (V.less (b' := 335 * (L - (i + 4)) + Ph S.2.2) (by have := kr.2.2.1; omega) (fin _ _ ls2))
      · exact absurd (lg_cmp_self _) c1044
  · exact absurd rfl c1027
theorem cs_centreLength {E : EV} {Γ : VG} {b0 L : Nat} {xs : Nat → Int32} (lw : LW E Γ b0 L xs) {h : AH} {q q2 o1 o2 i : Nat} {A : Nat → Nat} {s : SQ} (hi : i + 4 ≤ L) (ls : LSt h q q2 o1 o2 A s) (fin : ∀ (h2 : AH) (s2 : SQ), LSt h2 q q2 o1 o2 A s2 → V E Γ (335 * (L - (i + 4)) + Ph s2) h2 2123 [(5, .int (nI i)), (0, .ref b0), (1, .ref q), (2, .ref q2), (3, .ref o1), (4, .ref o2)] []) : V E Γ (335 * (L - i) + Ph s) h 1052 [(5, .int (nI i)), (0, .ref b0), (1, .ref q), (2, .ref q2), (3, .ref o1), (4, .ref o2)] [] := by
  obtain ⟨X, nx, hX, hbl, hbA, hRm, hL, -⟩ := lw
  obtain ⟨⟨G, z⟩, ⟨F, mp, rm⟩, hI, hT, ko1, oo1, ko2, oo2⟩ := ls
  have hC := z.codes
  have w := hI.ws
  obtain ⟨c1, hc1⟩ : ∃ c, c = xs (nI (i + 1)).toNatClampNeg := ⟨_, rfl⟩
  obtain ⟨c2, hc2⟩ : ∃ c, c = xs (nI (i + 2)).toNatClampNeg := ⟨_, rfl⟩
  obtain ⟨c3, hc3⟩ : ∃ c, c = xs (nI (i + 3)).toNatClampNeg := ⟨_, rfl⟩
  obtain ⟨d2, hd2⟩ : ∃ d, d = (c2.toUInt32 % 65536).toInt32 := ⟨_, rfl⟩
  obtain ⟨d3, hd3⟩ : ∃ d, d = (c3.toUInt32 % 65536).toInt32 := ⟨_, rfl⟩
  refine V_aload_n (pc := 1052) X 2 dL_law_1052 rfl ?_
  refine V_callV (pc := 1053) X clk8 (by decide) z.k _ (x_centreLength z w) cw_L_176 (hRm _ _ (by decide) (by decide)) rfl (Nat.le_of_ble_eq_true rfl) rfl (by omega) dL_law_1053 (fun _ _ z => z.elim) ?_
  rintro v1 h1 ⟨rfl, e1⟩
  have mp1 : MP h1 q2 A F := by rw [e1]; exact mp
  simp only [Option.toList_some, List.cons_append, List.nil_append]
  refine V_aload_n (pc := 1056) X 3 dL_law_1056 rfl ?_
  refine V_callV (pc := 1057) X clk9 (by decide) mp1.k _ (y_centreLength mp1 rm w hI.hH) cw_L_179 (hRm _ _ (by decide) (by decide)) rfl (Nat.le_of_ble_eq_true rfl) rfl (by omega) dL_law_1057 (fun _ _ z => z.elim) ?_
  rintro v2 h2 ⟨rfl, F2, mp2, fm2, rm2, t2⟩
  have ls2 : LSt h2 q q2 o1 o2 A s := LSt.next (h := h) (h1 := h1) (G1 := G) (by rw [e1]; exact z) (by rw [e1]; exact FO.refl h) fm2 mp2 rm2 hI hT ko1 oo1 ko2 oo2
  simp only [Option.toList_some, List.cons_append, List.nil_append]
  refine V_icmp_eq (pc := 1060) X 2123 dL_law_1060 (by decide) (fun c1060 => ?_) (fun c1060 => ?_)
  · exact V.less (b' := 335 * (L - (i + 4)) + Ph s) (by omega) (fin _ _ ls2)
  · exact absurd rfl c1060
theorem cs_centreChar {E : EV} {Γ : VG} {b0 L : Nat} {xs : Nat → Int32} (lw : LW E Γ b0 L xs) {h : AH} {q q2 o1 o2 i : Nat} {A : Nat → Nat} {s : SQ} (hi : i + 4 ≤ L) (ls : LSt h q q2 o1 o2 A s) (fin : ∀ (h2 : AH) (s2 : SQ), LSt h2 q q2 o1 o2 A s2 → V E Γ (335 * (L - (i + 4)) + Ph s2) h2 2123 [(5, .int (nI i)), (0, .ref b0), (1, .ref q), (2, .ref q2), (3, .ref o1), (4, .ref o2)] []) : V E Γ (335 * (L - i) + Ph s) h 1065 [(5, .int (nI i)), (0, .ref b0), (1, .ref q), (2, .ref q2), (3, .ref o1), (4, .ref o2)] [] := by
  obtain ⟨X, nx, hX, hbl, hbA, hRm, hL, -⟩ := lw
  obtain ⟨⟨G, z⟩, ⟨F, mp, rm⟩, hI, hT, ko1, oo1, ko2, oo2⟩ := ls
  have hC := z.codes
  have w := hI.ws
  obtain ⟨c1, hc1⟩ : ∃ c, c = xs (nI (i + 1)).toNatClampNeg := ⟨_, rfl⟩
  obtain ⟨c2, hc2⟩ : ∃ c, c = xs (nI (i + 2)).toNatClampNeg := ⟨_, rfl⟩
  obtain ⟨c3, hc3⟩ : ∃ c, c = xs (nI (i + 3)).toNatClampNeg := ⟨_, rfl⟩
  obtain ⟨d2, hd2⟩ : ∃ d, d = (c2.toUInt32 % 65536).toInt32 := ⟨_, rfl⟩
  obtain ⟨d3, hd3⟩ : ∃ d, d = (c3.toUInt32 % 65536).toInt32 := ⟨_, rfl⟩
  refine V_aload_n (pc := 1065) X 2 dL_law_1065 rfl ?_
  refine V_aload_n (pc := 1066) X 1 dL_law_1066 rfl ?_
  refine V_iload (pc := 1067) X 0 dL_law_1067 rfl ?_
  refine V_iconst (pc := 1069) (v := 1) X dL_law_1069 (by decide) ?_
  refine V_iadd (pc := 1070) X dL_law_1070 ?_
  rw [nI_1]
  refine V_sld (pc := 1071) X hX hbl hbA (vp_in_nI (show i + 1 < L by omega) (by omega)) dL_law_1071 ?_
  rw [← hc1]
  refine V_aload_n (pc := 1072) X 4 dL_law_1072 rfl ?_
  refine V_callW (pc := 1073) X nx _ (k_centreChar (a1 := c1) z hI ko1 oo1) cw_L_180 (hRm _ _ (by decide) (by decide)) rfl (Nat.le_of_ble_eq_true rfl) rfl (by omega) dL_law_1073 ?_
  rintro v1 h1 ⟨rfl, ⟨G1, z1⟩, fo1, out1⟩
  simp only [Option.toList_some, List.cons_append, List.nil_append]
  have kr : KR s (smCC c1 s) := smCC_K hI hT
  have mp1 : MP h1 q2 A F := mp.fr fo1 (fun a y u => u y)
  generalize hS : smCC c1 s = S at z1 out1 kr ⊢
  refine V_istore (pc := 1076) X [(6, .int _), (5, .int _), (0, .ref _), (1, .ref _), (2, .ref _), (3, .ref _), (4, .ref _)] dL_law_1076 (by decide) rfl ?_
  refine V_aload_n (pc := 1078) X 4 dL_law_1078 rfl ?_
  refine V_aload_n (pc := 1079) X 2 dL_law_1079 rfl ?_
  refine V_iload (pc := 1080) X 1 dL_law_1080 rfl ?_
  refine V_iconst (pc := 1082) (v := 1) X dL_law_1082 (by decide) ?_
  refine V_iadd (pc := 1083) X dL_law_1083 ?_
  rw [nI_1]
  refine V_sld (pc := 1084) X hX hbl hbA (vp_in_nI (show i + 1 < L by omega) (by omega)) dL_law_1084 ?_
  rw [← hc1]
  refine V_callV (pc := 1085) X clk9 (by decide) mp1.k _ (n_centreChar mp1 rm hI hT hC) cw_L_182 (hRm _ _ (by decide) (by decide)) rfl (Nat.le_of_ble_eq_true rfl) rfl (by omega) dL_law_1085 (fun _ _ z => z.elim) ?_
  rintro v2 h2 nk
  rw [hS] at nk
  obtain ⟨⟨F2, mp2, fm2, rm2, t2⟩, u, rfl, hu⟩ := nk
  have ls2 : LSt h2 q q2 o1 o2 A S.2.2 := LSt.next z1 fo1 fm2 mp2 rm2 kr.1 kr.2.1 ko1 oo1 ko2 oo2
  simp only [Option.toList_some, List.cons_append, List.nil_append]
  refine V_istore (pc := 1088) X [(7, .int _), (6, .int _), (5, .int _), (0, .ref _), (1, .ref _), (2, .ref _), (3, .ref _), (4, .ref _)] dL_law_1088 (by decide) rfl ?_
  refine V_aload_n (pc := 1090) X 5 dL_law_1090 rfl ?_
  refine V_callV (pc := 1091) X clk9 (by decide) mp2.k _ (m_thrown mp2) cw_L_129 (hRm _ _ (by decide) (by decide)) rfl (Nat.le_of_ble_eq_true rfl) rfl (by omega) dL_law_1091 (fun _ _ z => z.elim) ?_
  rintro v3 h3 ⟨rfl, e3⟩
  rw [e3, t2]
  simp only [Option.toList_some, List.cons_append, List.nil_append]
  refine V_iload (pc := 1094) X 1 dL_law_1094 rfl ?_
  refine V_icmp_eq (pc := 1096) X 1101 dL_law_1096 (by decide) (fun c1096 => ?_) (fun c1096 => ?_)
  · refine V_iload (pc := 1101) X 1 dL_law_1101 rfl ?_
    refine V_if_ne (pc := 1103) X 1118 dL_law_1103 (by decide) (fun c1103 => ?_) (fun c1103 => ?_)
    · refine V_goto (pc := 1118) X 2123 dL_law_1118 (by decide) ?_
      refine V.sub [2, 3, 4, 5, 6, 7] rfl (V.less (b' := 335 * (L - (i + 4)) + Ph S.2.2) (by have := kr.2.2.1; omega) (fin _ _ ls2))
    · have hS0 : S.1 = 0 := (nI_eq (b := 0) (by have := kr.2.2.2; omega) (by decide)).mp c1103
      have ou : qF h2 1600 o1 = .long u.toInt64 := LSt.out fo1 fm2 ko1 (by decide) oo1 (by rw [out1 hS0, ← hu hS0]; rfl)
      refine V_aload_n (pc := 1106) X 6 dL_law_1106 rfl ?_
      refine V_iconst (pc := 1107) (v := 0) X dL_law_1107 (by decide) ?_
      refine V_lald (pc := 1108) X ls2.2.2.2.2.1 ou dL_law_1108 ?_
      refine V_iload (pc := 1109) X 0 dL_law_1109 rfl ?_
      refine V_i2l (pc := 1111) X dL_law_1111 ?_
      refine V_lcmp (pc := 1112) X dL_law_1112 ?_
      refine V_if_eq (pc := 1113) X 1118 dL_law_1113 (by decide) (fun c1113 => ?_) (fun c1113 => ?_)
      · refine V_goto (pc := 1118) X 2123 dL_law_1118 (by decide) ?_
        refine V.sub [2, 3, 4, 5, 6, 7] rfl (V.less (b' := 335 * (L - (i + 4)) + Ph S.2.2) (by have := kr.2.2.1; omega) (fin _ _ ls2))
      · exact absurd (lg_cmp_self _) c1113
  · exact absurd rfl c1096
theorem cs_cursor {E : EV} {Γ : VG} {b0 L : Nat} {xs : Nat → Int32} (lw : LW E Γ b0 L xs) {h : AH} {q q2 o1 o2 i : Nat} {A : Nat → Nat} {s : SQ} (hi : i + 4 ≤ L) (ls : LSt h q q2 o1 o2 A s) (fin : ∀ (h2 : AH) (s2 : SQ), LSt h2 q q2 o1 o2 A s2 → V E Γ (335 * (L - (i + 4)) + Ph s2) h2 2123 [(5, .int (nI i)), (0, .ref b0), (1, .ref q), (2, .ref q2), (3, .ref o1), (4, .ref o2)] []) : V E Γ (335 * (L - i) + Ph s) h 1121 [(5, .int (nI i)), (0, .ref b0), (1, .ref q), (2, .ref q2), (3, .ref o1), (4, .ref o2)] [] := by
  obtain ⟨X, nx, hX, hbl, hbA, hRm, hL, -⟩ := lw
  obtain ⟨⟨G, z⟩, ⟨F, mp, rm⟩, hI, hT, ko1, oo1, ko2, oo2⟩ := ls
  have hC := z.codes
  have w := hI.ws
  obtain ⟨c1, hc1⟩ : ∃ c, c = xs (nI (i + 1)).toNatClampNeg := ⟨_, rfl⟩
  obtain ⟨c2, hc2⟩ : ∃ c, c = xs (nI (i + 2)).toNatClampNeg := ⟨_, rfl⟩
  obtain ⟨c3, hc3⟩ : ∃ c, c = xs (nI (i + 3)).toNatClampNeg := ⟨_, rfl⟩
  obtain ⟨d2, hd2⟩ : ∃ d, d = (c2.toUInt32 % 65536).toInt32 := ⟨_, rfl⟩
  obtain ⟨d3, hd3⟩ : ∃ d, d = (c3.toUInt32 % 65536).toInt32 := ⟨_, rfl⟩
  refine V_aload_n (pc := 1121) X 2 dL_law_1121 rfl ?_
  refine V_aload_n (pc := 1122) X 1 dL_law_1122 rfl ?_
  refine V_iload (pc := 1123) X 0 dL_law_1123 rfl ?_
  refine V_iconst (pc := 1125) (v := 1) X dL_law_1125 (by decide) ?_
  refine V_iadd (pc := 1126) X dL_law_1126 ?_
  rw [nI_1]
  refine V_sld (pc := 1127) X hX hbl hbA (vp_in_nI (show i + 1 < L by omega) (by omega)) dL_law_1127 ?_
  rw [← hc1]
  refine V_aload_n (pc := 1128) X 4 dL_law_1128 rfl ?_
  refine V_callW (pc := 1129) X nx _ (k_cursor (a1 := c1) z hI ko1 oo1) cw_L_183 (hRm _ _ (by decide) (by decide)) rfl (Nat.le_of_ble_eq_true rfl) rfl (by omega) dL_law_1129 ?_
  rintro v1 h1 ⟨rfl, ⟨G1, z1⟩, fo1, out1⟩
  simp only [Option.toList_some, List.cons_append, List.nil_append]
  have kr : KR s (smG (fun e => .int (nI (eC (zE s e)))) c1 s) := smG_K hI hT
  have mp1 : MP h1 q2 A F := mp.fr fo1 (fun a y u => u y)
  generalize hS : smG (fun e => .int (nI (eC (zE s e)))) c1 s = S at z1 out1 kr ⊢
  refine V_istore (pc := 1132) X [(6, .int _), (5, .int _), (0, .ref _), (1, .ref _), (2, .ref _), (3, .ref _), (4, .ref _)] dL_law_1132 (by decide) rfl ?_
  refine V_aload_n (pc := 1134) X 4 dL_law_1134 rfl ?_
  refine V_aload_n (pc := 1135) X 2 dL_law_1135 rfl ?_
  refine V_iload (pc := 1136) X 1 dL_law_1136 rfl ?_
  refine V_iconst (pc := 1138) (v := 1) X dL_law_1138 (by decide) ?_
  refine V_iadd (pc := 1139) X dL_law_1139 ?_
  rw [nI_1]
  refine V_sld (pc := 1140) X hX hbl hbA (vp_in_nI (show i + 1 < L by omega) (by omega)) dL_law_1140 ?_
  rw [← hc1]
  refine V_callV (pc := 1141) X clk9 (by decide) mp1.k _ (n_cursor mp1 rm hI hT hC) cw_L_185 (hRm _ _ (by decide) (by decide)) rfl (Nat.le_of_ble_eq_true rfl) rfl (by omega) dL_law_1141 (fun _ _ z => z.elim) ?_
  rintro v2 h2 nk
  rw [hS] at nk
  obtain ⟨⟨F2, mp2, fm2, rm2, t2⟩, u, rfl, hu⟩ := nk
  have ls2 : LSt h2 q q2 o1 o2 A S.2.2 := LSt.next z1 fo1 fm2 mp2 rm2 kr.1 kr.2.1 ko1 oo1 ko2 oo2
  simp only [Option.toList_some, List.cons_append, List.nil_append]
  refine V_istore (pc := 1144) X [(7, .int _), (6, .int _), (5, .int _), (0, .ref _), (1, .ref _), (2, .ref _), (3, .ref _), (4, .ref _)] dL_law_1144 (by decide) rfl ?_
  refine V_aload_n (pc := 1146) X 5 dL_law_1146 rfl ?_
  refine V_callV (pc := 1147) X clk9 (by decide) mp2.k _ (m_thrown mp2) cw_L_129 (hRm _ _ (by decide) (by decide)) rfl (Nat.le_of_ble_eq_true rfl) rfl (by omega) dL_law_1147 (fun _ _ z => z.elim) ?_
  rintro v3 h3 ⟨rfl, e3⟩
  rw [e3, t2]
  simp only [Option.toList_some, List.cons_append, List.nil_append]
  refine V_iload (pc := 1150) X 1 dL_law_1150 rfl ?_
  refine V_icmp_eq (pc := 1152) X 1157 dL_law_1152 (by decide) (fun c1152 => ?_) (fun c1152 => ?_)
  · refine V_iload (pc := 1157) X 1 dL_law_1157 rfl ?_
    refine V_if_ne (pc := 1159) X 1174 dL_law_1159 (by decide) (fun c1159 => ?_) (fun c1159 => ?_)
    · refine V_goto (pc := 1174) X 2123 dL_law_1174 (by decide) ?_
      refine V.sub [2, 3, 4, 5, 6, 7] rfl (V.less (b' := 335 * (L - (i + 4)) + Ph S.2.2) (by have := kr.2.2.1; omega) (fin _ _ ls2))
    · have hS0 : S.1 = 0 := (nI_eq (b := 0) (by have := kr.2.2.2; omega) (by decide)).mp c1159
      have ou : qF h2 1600 o1 = .long u.toInt64 := LSt.out fo1 fm2 ko1 (by decide) oo1 (by rw [out1 hS0, ← hu hS0]; rfl)
      refine V_aload_n (pc := 1162) X 6 dL_law_1162 rfl ?_
      refine V_iconst (pc := 1163) (v := 0) X dL_law_1163 (by decide) ?_
      refine V_lald (pc := 1164) X ls2.2.2.2.2.1 ou dL_law_1164 ?_
      refine V_iload (pc := 1165) X 0 dL_law_1165 rfl ?_
      refine V_i2l (pc := 1167) X dL_law_1167 ?_
      refine V_lcmp (pc := 1168) X dL_law_1168 ?_
      refine V_if_eq (pc := 1169) X 1174 dL_law_1169 (by decide) (fun c1169 => ?_) (fun c1169 => ?_)
      · refine V_goto (pc := 1174) X 2123 dL_law_1174 (by decide) ?_
        refine V.sub [2, 3, 4, 5, 6, 7] rfl (V.less (b' := 335 * (L - (i + 4)) + Ph S.2.2) (by have := kr.2.2.1; omega) (fin _ _ ls2))
      · exact absurd (lg_cmp_self _) c1169
  · exact absurd rfl c1152
theorem cs_mark {E : EV} {Γ : VG} {b0 L : Nat} {xs : Nat → Int32} (lw : LW E Γ b0 L xs) {h : AH} {q q2 o1 o2 i : Nat} {A : Nat → Nat} {s : SQ} (hi : i + 4 ≤ L) (ls : LSt h q q2 o1 o2 A s) (fin : ∀ (h2 : AH) (s2 : SQ), LSt h2 q q2 o1 o2 A s2 → V E Γ (335 * (L - (i + 4)) + Ph s2) h2 2123 [(5, .int (nI i)), (0, .ref b0), (1, .ref q), (2, .ref q2), (3, .ref o1), (4, .ref o2)] []) : V E Γ (335 * (L - i) + Ph s) h 1177 [(5, .int (nI i)), (0, .ref b0), (1, .ref q), (2, .ref q2), (3, .ref o1), (4, .ref o2)] [] := by
  obtain ⟨X, nx, hX, hbl, hbA, hRm, hL, -⟩ := lw
  obtain ⟨⟨G, z⟩, ⟨F, mp, rm⟩, hI, hT, ko1, oo1, ko2, oo2⟩ := ls
  have hC := z.codes
  have w := hI.ws
  obtain ⟨c1, hc1⟩ : ∃ c, c = xs (nI (i + 1)).toNatClampNeg := ⟨_, rfl⟩
  obtain ⟨c2, hc2⟩ : ∃ c, c = xs (nI (i + 2)).toNatClampNeg := ⟨_, rfl⟩
  obtain ⟨c3, hc3⟩ : ∃ c, c = xs (nI (i + 3)).toNatClampNeg := ⟨_, rfl⟩
  obtain ⟨d2, hd2⟩ : ∃ d, d = (c2.toUInt32 % 65536).toInt32 := ⟨_, rfl⟩
  obtain ⟨d3, hd3⟩ : ∃ d, d = (c3.toUInt32 % 65536).toInt32 := ⟨_, rfl⟩
  refine V_aload_n (pc := 1177) X 2 dL_law_1177 rfl ?_
  refine V_aload_n (pc := 1178) X 1 dL_law_1178 rfl ?_
  refine V_iload (pc := 1179) X 0 dL_law_1179 rfl ?_
  refine V_iconst (pc := 1181) (v := 1) X dL_law_1181 (by decide) ?_
  refine V_iadd (pc := 1182) X dL_law_1182 ?_
  rw [nI_1]
  refine V_sld (pc := 1183) X hX hbl hbA (vp_in_nI (show i + 1 < L by omega) (by omega)) dL_law_1183 ?_
  rw [← hc1]
  refine V_aload_n (pc := 1184) X 4 dL_law_1184 rfl ?_
  refine V_callW (pc := 1185) X nx _ (k_mark (a1 := c1) z hI ko1 oo1) cw_L_186 (hRm _ _ (by decide) (by decide)) rfl (Nat.le_of_ble_eq_true rfl) rfl (by omega) dL_law_1185 ?_
  rintro v1 h1 ⟨rfl, ⟨G1, z1⟩, fo1, out1⟩
  simp only [Option.toList_some, List.cons_append, List.nil_append]
  have kr : KR s (smG (fun e => .int (nI (eMk (zE s e)))) c1 s) := smG_K hI hT
  have mp1 : MP h1 q2 A F := mp.fr fo1 (fun a y u => u y)
  generalize hS : smG (fun e => .int (nI (eMk (zE s e)))) c1 s = S at z1 out1 kr ⊢
  refine V_istore (pc := 1188) X [(6, .int _), (5, .int _), (0, .ref _), (1, .ref _), (2, .ref _), (3, .ref _), (4, .ref _)] dL_law_1188 (by decide) rfl ?_
  refine V_aload_n (pc := 1190) X 4 dL_law_1190 rfl ?_
  refine V_aload_n (pc := 1191) X 2 dL_law_1191 rfl ?_
  refine V_iload (pc := 1192) X 1 dL_law_1192 rfl ?_
  refine V_iconst (pc := 1194) (v := 1) X dL_law_1194 (by decide) ?_
  refine V_iadd (pc := 1195) X dL_law_1195 ?_
  rw [nI_1]
  refine V_sld (pc := 1196) X hX hbl hbA (vp_in_nI (show i + 1 < L by omega) (by omega)) dL_law_1196 ?_
  rw [← hc1]
  refine V_callV (pc := 1197) X clk9 (by decide) mp1.k _ (n_mark mp1 rm hI hT hC) cw_L_188 (hRm _ _ (by decide) (by decide)) rfl (Nat.le_of_ble_eq_true rfl) rfl (by omega) dL_law_1197 (fun _ _ z => z.elim) ?_
  rintro v2 h2 nk
  rw [hS] at nk
  obtain ⟨⟨F2, mp2, fm2, rm2, t2⟩, u, rfl, hu⟩ := nk
  have ls2 : LSt h2 q q2 o1 o2 A S.2.2 := LSt.next z1 fo1 fm2 mp2 rm2 kr.1 kr.2.1 ko1 oo1 ko2 oo2
  simp only [Option.toList_some, List.cons_append, List.nil_append]
  refine V_istore (pc := 1200) X [(7, .int _), (6, .int _), (5, .int _), (0, .ref _), (1, .ref _), (2, .ref _), (3, .ref _), (4, .ref _)] dL_law_1200 (by decide) rfl ?_
  refine V_aload_n (pc := 1202) X 5 dL_law_1202 rfl ?_
  refine V_callV (pc := 1203) X clk9 (by decide) mp2.k _ (m_thrown mp2) cw_L_129 (hRm _ _ (by decide) (by decide)) rfl (Nat.le_of_ble_eq_true rfl) rfl (by omega) dL_law_1203 (fun _ _ z => z.elim) ?_
  rintro v3 h3 ⟨rfl, e3⟩
  rw [e3, t2]
  simp only [Option.toList_some, List.cons_append, List.nil_append]
  refine V_iload (pc := 1206) X 1 dL_law_1206 rfl ?_
  refine V_icmp_eq (pc := 1208) X 1213 dL_law_1208 (by decide) (fun c1208 => ?_) (fun c1208 => ?_)
  · refine V_iload (pc := 1213) X 1 dL_law_1213 rfl ?_
    refine V_if_ne (pc := 1215) X 1230 dL_law_1215 (by decide) (fun c1215 => ?_) (fun c1215 => ?_)
    · refine V_goto (pc := 1230) X 2123 dL_law_1230 (by decide) ?_
      refine V.sub [2, 3, 4, 5, 6, 7] rfl (V.less (b' := 335 * (L - (i + 4)) + Ph S.2.2) (by have := kr.2.2.1; omega) (fin _ _ ls2))
    · have hS0 : S.1 = 0 := (nI_eq (b := 0) (by have := kr.2.2.2; omega) (by decide)).mp c1215
      have ou : qF h2 1600 o1 = .long u.toInt64 := LSt.out fo1 fm2 ko1 (by decide) oo1 (by rw [out1 hS0, ← hu hS0]; rfl)
      refine V_aload_n (pc := 1218) X 6 dL_law_1218 rfl ?_
      refine V_iconst (pc := 1219) (v := 0) X dL_law_1219 (by decide) ?_
      refine V_lald (pc := 1220) X ls2.2.2.2.2.1 ou dL_law_1220 ?_
      refine V_iload (pc := 1221) X 0 dL_law_1221 rfl ?_
      refine V_i2l (pc := 1223) X dL_law_1223 ?_
      refine V_lcmp (pc := 1224) X dL_law_1224 ?_
      refine V_if_eq (pc := 1225) X 1230 dL_law_1225 (by decide) (fun c1225 => ?_) (fun c1225 => ?_)
      · refine V_goto (pc := 1230) X 2123 dL_law_1230 (by decide) ?_
        refine V.sub [2, 3, 4, 5, 6, 7] rfl (V.less (b' := 335 * (L - (i + 4)) + Ph S.2.2) (by have := kr.2.2.1; omega) (fin _ _ ls2))
      · exact absurd (lg_cmp_self _) c1225
  · exact absurd rfl c1208
theorem cs_revision {E : EV} {Γ : VG} {b0 L : Nat} {xs : Nat → Int32} (lw : LW E Γ b0 L xs) {h : AH} {q q2 o1 o2 i : Nat} {A : Nat → Nat} {s : SQ} (hi : i + 4 ≤ L) (ls : LSt h q q2 o1 o2 A s) (fin : ∀ (h2 : AH) (s2 : SQ), LSt h2 q q2 o1 o2 A s2 → V E Γ (335 * (L - (i + 4)) + Ph s2) h2 2123 [(5, .int (nI i)), (0, .ref b0), (1, .ref q), (2, .ref q2), (3, .ref o1), (4, .ref o2)] []) : V E Γ (335 * (L - i) + Ph s) h 1233 [(5, .int (nI i)), (0, .ref b0), (1, .ref q), (2, .ref q2), (3, .ref o1), (4, .ref o2)] [] := by
  obtain ⟨X, nx, hX, hbl, hbA, hRm, hL, -⟩ := lw
  obtain ⟨⟨G, z⟩, ⟨F, mp, rm⟩, hI, hT, ko1, oo1, ko2, oo2⟩ := ls
  have hC := z.codes
  have w := hI.ws
  obtain ⟨c1, hc1⟩ : ∃ c, c = xs (nI (i + 1)).toNatClampNeg := ⟨_, rfl⟩
  obtain ⟨c2, hc2⟩ : ∃ c, c = xs (nI (i + 2)).toNatClampNeg := ⟨_, rfl⟩
  obtain ⟨c3, hc3⟩ : ∃ c, c = xs (nI (i + 3)).toNatClampNeg := ⟨_, rfl⟩
  obtain ⟨d2, hd2⟩ : ∃ d, d = (c2.toUInt32 % 65536).toInt32 := ⟨_, rfl⟩
  obtain ⟨d3, hd3⟩ : ∃ d, d = (c3.toUInt32 % 65536).toInt32 := ⟨_, rfl⟩
  refine V_aload_n (pc := 1233) X 2 dL_law_1233 rfl ?_
  refine V_aload_n (pc := 1234) X 1 dL_law_1234 rfl ?_
  refine V_iload (pc := 1235) X 0 dL_law_1235 rfl ?_
  refine V_iconst (pc := 1237) (v := 1) X dL_law_1237 (by decide) ?_
  refine V_iadd (pc := 1238) X dL_law_1238 ?_
  rw [nI_1]
  refine V_sld (pc := 1239) X hX hbl hbA (vp_in_nI (show i + 1 < L by omega) (by omega)) dL_law_1239 ?_
  rw [← hc1]
  refine V_aload_n (pc := 1240) X 4 dL_law_1240 rfl ?_
  refine V_callW (pc := 1241) X nx _ (k_revision (a1 := c1) z hI ko1 oo1) cw_L_189 (hRm _ _ (by decide) (by decide)) rfl (Nat.le_of_ble_eq_true rfl) rfl (by omega) dL_law_1241 ?_
  rintro v1 h1 ⟨rfl, ⟨G1, z1⟩, fo1, out1⟩
  simp only [Option.toList_some, List.cons_append, List.nil_append]
  have kr : KR s (smG (fun e => .int (nI (eR (zE s e)))) c1 s) := smG_K hI hT
  have mp1 : MP h1 q2 A F := mp.fr fo1 (fun a y u => u y)
  generalize hS : smG (fun e => .int (nI (eR (zE s e)))) c1 s = S at z1 out1 kr ⊢
  refine V_istore (pc := 1244) X [(6, .int _), (5, .int _), (0, .ref _), (1, .ref _), (2, .ref _), (3, .ref _), (4, .ref _)] dL_law_1244 (by decide) rfl ?_
  refine V_aload_n (pc := 1246) X 4 dL_law_1246 rfl ?_
  refine V_aload_n (pc := 1247) X 2 dL_law_1247 rfl ?_
  refine V_iload (pc := 1248) X 1 dL_law_1248 rfl ?_
  refine V_iconst (pc := 1250) (v := 1) X dL_law_1250 (by decide) ?_
  refine V_iadd (pc := 1251) X dL_law_1251 ?_
  rw [nI_1]
  refine V_sld (pc := 1252) X hX hbl hbA (vp_in_nI (show i + 1 < L by omega) (by omega)) dL_law_1252 ?_
  rw [← hc1]
  refine V_callV (pc := 1253) X clk9 (by decide) mp1.k _ (n_revision mp1 rm hI hT hC) cw_L_191 (hRm _ _ (by decide) (by decide)) rfl (Nat.le_of_ble_eq_true rfl) rfl (by omega) dL_law_1253 (fun _ _ z => z.elim) ?_
  rintro v2 h2 nk
  rw [hS] at nk
  obtain ⟨⟨F2, mp2, fm2, rm2, t2⟩, u, rfl, hu⟩ := nk
  have ls2 : LSt h2 q q2 o1 o2 A S.2.2 := LSt.next z1 fo1 fm2 mp2 rm2 kr.1 kr.2.1 ko1 oo1 ko2 oo2
  simp only [Option.toList_some, List.cons_append, List.nil_append]
  refine V_istore (pc := 1256) X [(7, .int _), (6, .int _), (5, .int _), (0, .ref _), (1, .ref _), (2, .ref _), (3, .ref _), (4, .ref _)] dL_law_1256 (by decide) rfl ?_
  refine V_aload_n (pc := 1258) X 5 dL_law_1258 rfl ?_
  refine V_callV (pc := 1259) X clk9 (by decide) mp2.k _ (m_thrown mp2) cw_L_129 (hRm _ _ (by decide) (by decide)) rfl (Nat.le_of_ble_eq_true rfl) rfl (by omega) dL_law_1259 (fun _ _ z => z.elim) ?_
  rintro v3 h3 ⟨rfl, e3⟩
  rw [e3, t2]
  simp only [Option.toList_some, List.cons_append, List.nil_append]
  refine V_iload (pc := 1262) X 1 dL_law_1262 rfl ?_
  refine V_icmp_eq (pc := 1264) X 1269 dL_law_1264 (by decide) (fun c1264 => ?_) (fun c1264 => ?_)
  · refine V_iload (pc := 1269) X 1 dL_law_1269 rfl ?_
    refine V_if_ne (pc := 1271) X 1286 dL_law_1271 (by decide) (fun c1271 => ?_) (fun c1271 => ?_)
    · refine V_goto (pc := 1286) X 2123 dL_law_1286 (by decide) ?_
      refine V.sub [2, 3, 4, 5, 6, 7] rfl (V.less (b' := 335 * (L - (i + 4)) + Ph S.2.2) (by have := kr.2.2.1; omega) (fin _ _ ls2))
    · have hS0 : S.1 = 0 := (nI_eq (b := 0) (by have := kr.2.2.2; omega) (by decide)).mp c1271
      have ou : qF h2 1600 o1 = .long u.toInt64 := LSt.out fo1 fm2 ko1 (by decide) oo1 (by rw [out1 hS0, ← hu hS0]; rfl)
      refine V_aload_n (pc := 1274) X 6 dL_law_1274 rfl ?_
      refine V_iconst (pc := 1275) (v := 0) X dL_law_1275 (by decide) ?_
      refine V_lald (pc := 1276) X ls2.2.2.2.2.1 ou dL_law_1276 ?_
      refine V_iload (pc := 1277) X 0 dL_law_1277 rfl ?_
      refine V_i2l (pc := 1279) X dL_law_1279 ?_
      refine V_lcmp (pc := 1280) X dL_law_1280 ?_
      refine V_if_eq (pc := 1281) X 1286 dL_law_1281 (by decide) (fun c1281 => ?_) (fun c1281 => ?_)
      · refine V_goto (pc := 1286) X 2123 dL_law_1286 (by decide) ?_
        refine V.sub [2, 3, 4, 5, 6, 7] rfl (V.less (b' := 335 * (L - (i + 4)) + Ph S.2.2) (by have := kr.2.2.1; omega) (fin _ _ ls2))
      · exact absurd (lg_cmp_self _) c1281
  · exact absurd rfl c1264
theorem cs_sent {E : EV} {Γ : VG} {b0 L : Nat} {xs : Nat → Int32} (lw : LW E Γ b0 L xs) {h : AH} {q q2 o1 o2 i : Nat} {A : Nat → Nat} {s : SQ} (hi : i + 4 ≤ L) (ls : LSt h q q2 o1 o2 A s) (fin : ∀ (h2 : AH) (s2 : SQ), LSt h2 q q2 o1 o2 A s2 → V E Γ (335 * (L - (i + 4)) + Ph s2) h2 2123 [(5, .int (nI i)), (0, .ref b0), (1, .ref q), (2, .ref q2), (3, .ref o1), (4, .ref o2)] []) : V E Γ (335 * (L - i) + Ph s) h 1289 [(5, .int (nI i)), (0, .ref b0), (1, .ref q), (2, .ref q2), (3, .ref o1), (4, .ref o2)] [] := by
  obtain ⟨X, nx, hX, hbl, hbA, hRm, hL, -⟩ := lw
  obtain ⟨⟨G, z⟩, ⟨F, mp, rm⟩, hI, hT, ko1, oo1, ko2, oo2⟩ := ls
  have hC := z.codes
  have w := hI.ws
  obtain ⟨c1, hc1⟩ : ∃ c, c = xs (nI (i + 1)).toNatClampNeg := ⟨_, rfl⟩
  obtain ⟨c2, hc2⟩ : ∃ c, c = xs (nI (i + 2)).toNatClampNeg := ⟨_, rfl⟩
  obtain ⟨c3, hc3⟩ : ∃ c, c = xs (nI (i + 3)).toNatClampNeg := ⟨_, rfl⟩
  obtain ⟨d2, hd2⟩ : ∃ d, d = (c2.toUInt32 % 65536).toInt32 := ⟨_, rfl⟩
  obtain ⟨d3, hd3⟩ : ∃ d, d = (c3.toUInt32 % 65536).toInt32 := ⟨_, rfl⟩
  refine V_aload_n (pc := 1289) X 2 dL_law_1289 rfl ?_
  refine V_aload_n (pc := 1290) X 1 dL_law_1290 rfl ?_
  refine V_iload (pc := 1291) X 0 dL_law_1291 rfl ?_
  refine V_iconst (pc := 1293) (v := 1) X dL_law_1293 (by decide) ?_
  refine V_iadd (pc := 1294) X dL_law_1294 ?_
  rw [nI_1]
  refine V_sld (pc := 1295) X hX hbl hbA (vp_in_nI (show i + 1 < L by omega) (by omega)) dL_law_1295 ?_
  rw [← hc1]
  refine V_aload_n (pc := 1296) X 4 dL_law_1296 rfl ?_
  refine V_callW (pc := 1297) X nx _ (k_sent (a1 := c1) z hI ko1 oo1) cw_L_192 (hRm _ _ (by decide) (by decide)) rfl (Nat.le_of_ble_eq_true rfl) rfl (by omega) dL_law_1297 ?_
  rintro v1 h1 ⟨rfl, ⟨G1, z1⟩, fo1, out1⟩
  simp only [Option.toList_some, List.cons_append, List.nil_append]
  have kr : KR s (smG (fun e => .int (nI ((eS (zE s e)).length))) c1 s) := smG_K hI hT
  have mp1 : MP h1 q2 A F := mp.fr fo1 (fun a y u => u y)
  generalize hS : smG (fun e => .int (nI ((eS (zE s e)).length))) c1 s = S at z1 out1 kr ⊢
  refine V_istore (pc := 1300) X [(6, .int _), (5, .int _), (0, .ref _), (1, .ref _), (2, .ref _), (3, .ref _), (4, .ref _)] dL_law_1300 (by decide) rfl ?_
  refine V_aload_n (pc := 1302) X 4 dL_law_1302 rfl ?_
  refine V_aload_n (pc := 1303) X 2 dL_law_1303 rfl ?_
  refine V_iload (pc := 1304) X 1 dL_law_1304 rfl ?_
  refine V_iconst (pc := 1306) (v := 1) X dL_law_1306 (by decide) ?_
  refine V_iadd (pc := 1307) X dL_law_1307 ?_
  rw [nI_1]
  refine V_sld (pc := 1308) X hX hbl hbA (vp_in_nI (show i + 1 < L by omega) (by omega)) dL_law_1308 ?_
  rw [← hc1]
  refine V_callV (pc := 1309) X clk9 (by decide) mp1.k _ (n_sent mp1 rm hI hT hC) cw_L_194 (hRm _ _ (by decide) (by decide)) rfl (Nat.le_of_ble_eq_true rfl) rfl (by omega) dL_law_1309 (fun _ _ z => z.elim) ?_
  rintro v2 h2 nk
  rw [hS] at nk
  obtain ⟨⟨F2, mp2, fm2, rm2, t2⟩, u, rfl, hu⟩ := nk
  have ls2 : LSt h2 q q2 o1 o2 A S.2.2 := LSt.next z1 fo1 fm2 mp2 rm2 kr.1 kr.2.1 ko1 oo1 ko2 oo2
  simp only [Option.toList_some, List.cons_append, List.nil_append]
  refine V_istore (pc := 1312) X [(7, .int _), (6, .int _), (5, .int _), (0, .ref _), (1, .ref _), (2, .ref _), (3, .ref _), (4, .ref _)] dL_law_1312 (by decide) rfl ?_
  refine V_aload_n (pc := 1314) X 5 dL_law_1314 rfl ?_
  refine V_callV (pc := 1315) X clk9 (by decide) mp2.k _ (m_thrown mp2) cw_L_129 (hRm _ _ (by decide) (by decide)) rfl (Nat.le_of_ble_eq_true rfl) rfl (by omega) dL_law_1315 (fun _ _ z => z.elim) ?_
  rintro v3 h3 ⟨rfl, e3⟩
  rw [e3, t2]
  simp only [Option.toList_some, List.cons_append, List.nil_append]
  refine V_iload (pc := 1318) X 1 dL_law_1318 rfl ?_
  refine V_icmp_eq (pc := 1320) X 1325 dL_law_1320 (by decide) (fun c1320 => ?_) (fun c1320 => ?_)
  · refine V_iload (pc := 1325) X 1 dL_law_1325 rfl ?_
    refine V_if_ne (pc := 1327) X 1342 dL_law_1327 (by decide) (fun c1327 => ?_) (fun c1327 => ?_)
    · refine V_goto (pc := 1342) X 2123 dL_law_1342 (by decide) ?_
      refine V.sub [2, 3, 4, 5, 6, 7] rfl (V.less (b' := 335 * (L - (i + 4)) + Ph S.2.2) (by have := kr.2.2.1; omega) (fin _ _ ls2))
    · have hS0 : S.1 = 0 := (nI_eq (b := 0) (by have := kr.2.2.2; omega) (by decide)).mp c1327
      have ou : qF h2 1600 o1 = .long u.toInt64 := LSt.out fo1 fm2 ko1 (by decide) oo1 (by rw [out1 hS0, ← hu hS0]; rfl)
      refine V_aload_n (pc := 1330) X 6 dL_law_1330 rfl ?_
      refine V_iconst (pc := 1331) (v := 0) X dL_law_1331 (by decide) ?_
      refine V_lald (pc := 1332) X ls2.2.2.2.2.1 ou dL_law_1332 ?_
      refine V_iload (pc := 1333) X 0 dL_law_1333 rfl ?_
      refine V_i2l (pc := 1335) X dL_law_1335 ?_
      refine V_lcmp (pc := 1336) X dL_law_1336 ?_
      refine V_if_eq (pc := 1337) X 1342 dL_law_1337 (by decide) (fun c1337 => ?_) (fun c1337 => ?_)
      · refine V_goto (pc := 1342) X 2123 dL_law_1342 (by decide) ?_
        refine V.sub [2, 3, 4, 5, 6, 7] rfl (V.less (b' := 335 * (L - (i + 4)) + Ph S.2.2) (by have := kr.2.2.1; omega) (fin _ _ ls2))
      · exact absurd (lg_cmp_self _) c1337
  · exact absurd rfl c1320
theorem cs_waiting {E : EV} {Γ : VG} {b0 L : Nat} {xs : Nat → Int32} (lw : LW E Γ b0 L xs) {h : AH} {q q2 o1 o2 i : Nat} {A : Nat → Nat} {s : SQ} (hi : i + 4 ≤ L) (ls : LSt h q q2 o1 o2 A s) (fin : ∀ (h2 : AH) (s2 : SQ), LSt h2 q q2 o1 o2 A s2 → V E Γ (335 * (L - (i + 4)) + Ph s2) h2 2123 [(5, .int (nI i)), (0, .ref b0), (1, .ref q), (2, .ref q2), (3, .ref o1), (4, .ref o2)] []) : V E Γ (335 * (L - i) + Ph s) h 1345 [(5, .int (nI i)), (0, .ref b0), (1, .ref q), (2, .ref q2), (3, .ref o1), (4, .ref o2)] [] := by
  obtain ⟨X, nx, hX, hbl, hbA, hRm, hL, -⟩ := lw
  obtain ⟨⟨G, z⟩, ⟨F, mp, rm⟩, hI, hT, ko1, oo1, ko2, oo2⟩ := ls
  have hC := z.codes
  have w := hI.ws
  obtain ⟨c1, hc1⟩ : ∃ c, c = xs (nI (i + 1)).toNatClampNeg := ⟨_, rfl⟩
  obtain ⟨c2, hc2⟩ : ∃ c, c = xs (nI (i + 2)).toNatClampNeg := ⟨_, rfl⟩
  obtain ⟨c3, hc3⟩ : ∃ c, c = xs (nI (i + 3)).toNatClampNeg := ⟨_, rfl⟩
  obtain ⟨d2, hd2⟩ : ∃ d, d = (c2.toUInt32 % 65536).toInt32 := ⟨_, rfl⟩
  obtain ⟨d3, hd3⟩ : ∃ d, d = (c3.toUInt32 % 65536).toInt32 := ⟨_, rfl⟩
  refine V_aload_n (pc := 1345) X 2 dL_law_1345 rfl ?_
  refine V_aload_n (pc := 1346) X 1 dL_law_1346 rfl ?_
  refine V_iload (pc := 1347) X 0 dL_law_1347 rfl ?_
  refine V_iconst (pc := 1349) (v := 1) X dL_law_1349 (by decide) ?_
  refine V_iadd (pc := 1350) X dL_law_1350 ?_
  rw [nI_1]
  refine V_sld (pc := 1351) X hX hbl hbA (vp_in_nI (show i + 1 < L by omega) (by omega)) dL_law_1351 ?_
  rw [← hc1]
  refine V_aload_n (pc := 1352) X 4 dL_law_1352 rfl ?_
  refine V_callW (pc := 1353) X nx _ (k_waiting (a1 := c1) z hI ko1 oo1) cw_L_195 (hRm _ _ (by decide) (by decide)) rfl (Nat.le_of_ble_eq_true rfl) rfl (by omega) dL_law_1353 ?_
  rintro v1 h1 ⟨rfl, ⟨G1, z1⟩, fo1, out1⟩
  simp only [Option.toList_some, List.cons_append, List.nil_append]
  have kr : KR s (smG (fun e => .int (nI ((eW (zE s e)).length))) c1 s) := smG_K hI hT
  have mp1 : MP h1 q2 A F := mp.fr fo1 (fun a y u => u y)
  generalize hS : smG (fun e => .int (nI ((eW (zE s e)).length))) c1 s = S at z1 out1 kr ⊢
  refine V_istore (pc := 1356) X [(6, .int _), (5, .int _), (0, .ref _), (1, .ref _), (2, .ref _), (3, .ref _), (4, .ref _)] dL_law_1356 (by decide) rfl ?_
  refine V_aload_n (pc := 1358) X 4 dL_law_1358 rfl ?_
  refine V_aload_n (pc := 1359) X 2 dL_law_1359 rfl ?_
  refine V_iload (pc := 1360) X 1 dL_law_1360 rfl ?_
  refine V_iconst (pc := 1362) (v := 1) X dL_law_1362 (by decide) ?_
  refine V_iadd (pc := 1363) X dL_law_1363 ?_
  rw [nI_1]
  refine V_sld (pc := 1364) X hX hbl hbA (vp_in_nI (show i + 1 < L by omega) (by omega)) dL_law_1364 ?_
  rw [← hc1]
  refine V_callV (pc := 1365) X clk9 (by decide) mp1.k _ (n_waiting mp1 rm hI hT hC) cw_L_197 (hRm _ _ (by decide) (by decide)) rfl (Nat.le_of_ble_eq_true rfl) rfl (by omega) dL_law_1365 (fun _ _ z => z.elim) ?_
  rintro v2 h2 nk
  rw [hS] at nk
  obtain ⟨⟨F2, mp2, fm2, rm2, t2⟩, u, rfl, hu⟩ := nk
  have ls2 : LSt h2 q q2 o1 o2 A S.2.2 := LSt.next z1 fo1 fm2 mp2 rm2 kr.1 kr.2.1 ko1 oo1 ko2 oo2
  simp only [Option.toList_some, List.cons_append, List.nil_append]
  refine V_istore (pc := 1368) X [(7, .int _), (6, .int _), (5, .int _), (0, .ref _), (1, .ref _), (2, .ref _), (3, .ref _), (4, .ref _)] dL_law_1368 (by decide) rfl ?_
  refine V_aload_n (pc := 1370) X 5 dL_law_1370 rfl ?_
  refine V_callV (pc := 1371) X clk9 (by decide) mp2.k _ (m_thrown mp2) cw_L_129 (hRm _ _ (by decide) (by decide)) rfl (Nat.le_of_ble_eq_true rfl) rfl (by omega) dL_law_1371 (fun _ _ z => z.elim) ?_
  rintro v3 h3 ⟨rfl, e3⟩
  rw [e3, t2]
  simp only [Option.toList_some, List.cons_append, List.nil_append]
  refine V_iload (pc := 1374) X 1 dL_law_1374 rfl ?_
  refine V_icmp_eq (pc := 1376) X 1381 dL_law_1376 (by decide) (fun c1376 => ?_) (fun c1376 => ?_)
  · refine V_iload (pc := 1381) X 1 dL_law_1381 rfl ?_
    refine V_if_ne (pc := 1383) X 1398 dL_law_1383 (by decide) (fun c1383 => ?_) (fun c1383 => ?_)
    · refine V_goto (pc := 1398) X 2123 dL_law_1398 (by decide) ?_
      refine V.sub [2, 3, 4, 5, 6, 7] rfl (V.less (b' := 335 * (L - (i + 4)) + Ph S.2.2) (by have := kr.2.2.1; omega) (fin _ _ ls2))
    · have hS0 : S.1 = 0 := (nI_eq (b := 0) (by have := kr.2.2.2; omega) (by decide)).mp c1383
      have ou : qF h2 1600 o1 = .long u.toInt64 := LSt.out fo1 fm2 ko1 (by decide) oo1 (by rw [out1 hS0, ← hu hS0]; rfl)
      refine V_aload_n (pc := 1386) X 6 dL_law_1386 rfl ?_
      refine V_iconst (pc := 1387) (v := 0) X dL_law_1387 (by decide) ?_
      refine V_lald (pc := 1388) X ls2.2.2.2.2.1 ou dL_law_1388 ?_
      refine V_iload (pc := 1389) X 0 dL_law_1389 rfl ?_
      refine V_i2l (pc := 1391) X dL_law_1391 ?_
      refine V_lcmp (pc := 1392) X dL_law_1392 ?_
      refine V_if_eq (pc := 1393) X 1398 dL_law_1393 (by decide) (fun c1393 => ?_) (fun c1393 => ?_)
      · refine V_goto (pc := 1398) X 2123 dL_law_1398 (by decide) ?_
        refine V.sub [2, 3, 4, 5, 6, 7] rfl (V.less (b' := 335 * (L - (i + 4)) + Ph S.2.2) (by have := kr.2.2.1; omega) (fin _ _ ls2))
      · exact absurd (lg_cmp_self _) c1393
  · exact absurd rfl c1376
theorem cs_runs {E : EV} {Γ : VG} {b0 L : Nat} {xs : Nat → Int32} (lw : LW E Γ b0 L xs) {h : AH} {q q2 o1 o2 i : Nat} {A : Nat → Nat} {s : SQ} (hi : i + 4 ≤ L) (ls : LSt h q q2 o1 o2 A s) (fin : ∀ (h2 : AH) (s2 : SQ), LSt h2 q q2 o1 o2 A s2 → V E Γ (335 * (L - (i + 4)) + Ph s2) h2 2123 [(5, .int (nI i)), (0, .ref b0), (1, .ref q), (2, .ref q2), (3, .ref o1), (4, .ref o2)] []) : V E Γ (335 * (L - i) + Ph s) h 1401 [(5, .int (nI i)), (0, .ref b0), (1, .ref q), (2, .ref q2), (3, .ref o1), (4, .ref o2)] [] := by
  obtain ⟨X, nx, hX, hbl, hbA, hRm, hL, -⟩ := lw
  obtain ⟨⟨G, z⟩, ⟨F, mp, rm⟩, hI, hT, ko1, oo1, ko2, oo2⟩ := ls
  have hC := z.codes
  have w := hI.ws
  obtain ⟨c1, hc1⟩ : ∃ c, c = xs (nI (i + 1)).toNatClampNeg := ⟨_, rfl⟩
  obtain ⟨c2, hc2⟩ : ∃ c, c = xs (nI (i + 2)).toNatClampNeg := ⟨_, rfl⟩
  obtain ⟨c3, hc3⟩ : ∃ c, c = xs (nI (i + 3)).toNatClampNeg := ⟨_, rfl⟩
  obtain ⟨d2, hd2⟩ : ∃ d, d = (c2.toUInt32 % 65536).toInt32 := ⟨_, rfl⟩
  obtain ⟨d3, hd3⟩ : ∃ d, d = (c3.toUInt32 % 65536).toInt32 := ⟨_, rfl⟩
  refine V_aload_n (pc := 1401) X 2 dL_law_1401 rfl ?_
  refine V_aload_n (pc := 1402) X 1 dL_law_1402 rfl ?_
  refine V_iload (pc := 1403) X 0 dL_law_1403 rfl ?_
  refine V_iconst (pc := 1405) (v := 1) X dL_law_1405 (by decide) ?_
  refine V_iadd (pc := 1406) X dL_law_1406 ?_
  rw [nI_1]
  refine V_sld (pc := 1407) X hX hbl hbA (vp_in_nI (show i + 1 < L by omega) (by omega)) dL_law_1407 ?_
  rw [← hc1]
  refine V_aload_n (pc := 1408) X 4 dL_law_1408 rfl ?_
  refine V_callW (pc := 1409) X nx _ (k_runs (a1 := c1) z hI ko1 oo1) cw_L_198 (hRm _ _ (by decide) (by decide)) rfl (Nat.le_of_ble_eq_true rfl) rfl (by omega) dL_law_1409 ?_
  rintro v1 h1 ⟨rfl, ⟨G1, z1⟩, fo1, out1⟩
  simp only [Option.toList_some, List.cons_append, List.nil_append]
  have kr : KR s (smG (fun e => .int (nI (crn (eW (zE s e))))) c1 s) := smG_K hI hT
  have mp1 : MP h1 q2 A F := mp.fr fo1 (fun a y u => u y)
  generalize hS : smG (fun e => .int (nI (crn (eW (zE s e))))) c1 s = S at z1 out1 kr ⊢
  refine V_istore (pc := 1412) X [(6, .int _), (5, .int _), (0, .ref _), (1, .ref _), (2, .ref _), (3, .ref _), (4, .ref _)] dL_law_1412 (by decide) rfl ?_
  refine V_aload_n (pc := 1414) X 4 dL_law_1414 rfl ?_
  refine V_aload_n (pc := 1415) X 2 dL_law_1415 rfl ?_
  refine V_iload (pc := 1416) X 1 dL_law_1416 rfl ?_
  refine V_iconst (pc := 1418) (v := 1) X dL_law_1418 (by decide) ?_
  refine V_iadd (pc := 1419) X dL_law_1419 ?_
  rw [nI_1]
  refine V_sld (pc := 1420) X hX hbl hbA (vp_in_nI (show i + 1 < L by omega) (by omega)) dL_law_1420 ?_
  rw [← hc1]
  refine V_callV (pc := 1421) X clk9 (by decide) mp1.k _ (n_runs mp1 rm hI hT hC) cw_L_200 (hRm _ _ (by decide) (by decide)) rfl (Nat.le_of_ble_eq_true rfl) rfl (by omega) dL_law_1421 (fun _ _ z => z.elim) ?_
  rintro v2 h2 nk
  rw [hS] at nk
  obtain ⟨⟨F2, mp2, fm2, rm2, t2⟩, u, rfl, hu⟩ := nk
  have ls2 : LSt h2 q q2 o1 o2 A S.2.2 := LSt.next z1 fo1 fm2 mp2 rm2 kr.1 kr.2.1 ko1 oo1 ko2 oo2
  simp only [Option.toList_some, List.cons_append, List.nil_append]
  refine V_istore (pc := 1424) X [(7, .int _), (6, .int _), (5, .int _), (0, .ref _), (1, .ref _), (2, .ref _), (3, .ref _), (4, .ref _)] dL_law_1424 (by decide) rfl ?_
  refine V_aload_n (pc := 1426) X 5 dL_law_1426 rfl ?_
  refine V_callV (pc := 1427) X clk9 (by decide) mp2.k _ (m_thrown mp2) cw_L_129 (hRm _ _ (by decide) (by decide)) rfl (Nat.le_of_ble_eq_true rfl) rfl (by omega) dL_law_1427 (fun _ _ z => z.elim) ?_
  rintro v3 h3 ⟨rfl, e3⟩
  rw [e3, t2]
  simp only [Option.toList_some, List.cons_append, List.nil_append]
  refine V_iload (pc := 1430) X 1 dL_law_1430 rfl ?_
  refine V_icmp_eq (pc := 1432) X 1437 dL_law_1432 (by decide) (fun c1432 => ?_) (fun c1432 => ?_)
  · refine V_iload (pc := 1437) X 1 dL_law_1437 rfl ?_
    refine V_if_ne (pc := 1439) X 1454 dL_law_1439 (by decide) (fun c1439 => ?_) (fun c1439 => ?_)
    · refine V_goto (pc := 1454) X 2123 dL_law_1454 (by decide) ?_
      refine V.sub [2, 3, 4, 5, 6, 7] rfl (V.less (b' := 335 * (L - (i + 4)) + Ph S.2.2) (by have := kr.2.2.1; omega) (fin _ _ ls2))
    · have hS0 : S.1 = 0 := (nI_eq (b := 0) (by have := kr.2.2.2; omega) (by decide)).mp c1439
      have ou : qF h2 1600 o1 = .long u.toInt64 := LSt.out fo1 fm2 ko1 (by decide) oo1 (by rw [out1 hS0, ← hu hS0]; rfl)
      refine V_aload_n (pc := 1442) X 6 dL_law_1442 rfl ?_
      refine V_iconst (pc := 1443) (v := 0) X dL_law_1443 (by decide) ?_
      refine V_lald (pc := 1444) X ls2.2.2.2.2.1 ou dL_law_1444 ?_
      refine V_iload (pc := 1445) X 0 dL_law_1445 rfl ?_
      refine V_i2l (pc := 1447) X dL_law_1447 ?_
      refine V_lcmp (pc := 1448) X dL_law_1448 ?_
      refine V_if_eq (pc := 1449) X 1454 dL_law_1449 (by decide) (fun c1449 => ?_) (fun c1449 => ?_)
      · refine V_goto (pc := 1454) X 2123 dL_law_1454 (by decide) ?_
        refine V.sub [2, 3, 4, 5, 6, 7] rfl (V.less (b' := 335 * (L - (i + 4)) + Ph S.2.2) (by have := kr.2.2.1; omega) (fin _ _ ls2))
      · exact absurd (lg_cmp_self _) c1449
  · exact absurd rfl c1432
theorem cs_up {E : EV} {Γ : VG} {b0 L : Nat} {xs : Nat → Int32} (lw : LW E Γ b0 L xs) {h : AH} {q q2 o1 o2 i : Nat} {A : Nat → Nat} {s : SQ} (hi : i + 4 ≤ L) (ls : LSt h q q2 o1 o2 A s) (fin : ∀ (h2 : AH) (s2 : SQ), LSt h2 q q2 o1 o2 A s2 → V E Γ (335 * (L - (i + 4)) + Ph s2) h2 2123 [(5, .int (nI i)), (0, .ref b0), (1, .ref q), (2, .ref q2), (3, .ref o1), (4, .ref o2)] []) : V E Γ (335 * (L - i) + Ph s) h 1457 [(5, .int (nI i)), (0, .ref b0), (1, .ref q), (2, .ref q2), (3, .ref o1), (4, .ref o2)] [] := by
  obtain ⟨X, nx, hX, hbl, hbA, hRm, hL, -⟩ := lw
  obtain ⟨⟨G, z⟩, ⟨F, mp, rm⟩, hI, hT, ko1, oo1, ko2, oo2⟩ := ls
  have hC := z.codes
  have w := hI.ws
  obtain ⟨c1, hc1⟩ : ∃ c, c = xs (nI (i + 1)).toNatClampNeg := ⟨_, rfl⟩
  obtain ⟨c2, hc2⟩ : ∃ c, c = xs (nI (i + 2)).toNatClampNeg := ⟨_, rfl⟩
  obtain ⟨c3, hc3⟩ : ∃ c, c = xs (nI (i + 3)).toNatClampNeg := ⟨_, rfl⟩
  obtain ⟨d2, hd2⟩ : ∃ d, d = (c2.toUInt32 % 65536).toInt32 := ⟨_, rfl⟩
  obtain ⟨d3, hd3⟩ : ∃ d, d = (c3.toUInt32 % 65536).toInt32 := ⟨_, rfl⟩
  refine V_aload_n (pc := 1457) X 2 dL_law_1457 rfl ?_
  refine V_aload_n (pc := 1458) X 1 dL_law_1458 rfl ?_
  refine V_iload (pc := 1459) X 0 dL_law_1459 rfl ?_
  refine V_iconst (pc := 1461) (v := 1) X dL_law_1461 (by decide) ?_
  refine V_iadd (pc := 1462) X dL_law_1462 ?_
  rw [nI_1]
  refine V_sld (pc := 1463) X hX hbl hbA (vp_in_nI (show i + 1 < L by omega) (by omega)) dL_law_1463 ?_
  rw [← hc1]
  refine V_aload_n (pc := 1464) X 4 dL_law_1464 rfl ?_
  refine V_callW (pc := 1465) X nx _ (k_up (a1 := c1) z hI ko1 oo1) cw_L_201 (hRm _ _ (by decide) (by decide)) rfl (Nat.le_of_ble_eq_true rfl) rfl (by omega) dL_law_1465 ?_
  rintro v1 h1 ⟨rfl, ⟨G1, z1⟩, fo1, out1⟩
  simp only [Option.toList_some, List.cons_append, List.nil_append]
  have kr : KR s (smG (fun e => .int (nI ((zU s e).length))) c1 s) := smG_K hI hT
  have mp1 : MP h1 q2 A F := mp.fr fo1 (fun a y u => u y)
  generalize hS : smG (fun e => .int (nI ((zU s e).length))) c1 s = S at z1 out1 kr ⊢
  refine V_istore (pc := 1468) X [(6, .int _), (5, .int _), (0, .ref _), (1, .ref _), (2, .ref _), (3, .ref _), (4, .ref _)] dL_law_1468 (by decide) rfl ?_
  refine V_aload_n (pc := 1470) X 4 dL_law_1470 rfl ?_
  refine V_aload_n (pc := 1471) X 2 dL_law_1471 rfl ?_
  refine V_iload (pc := 1472) X 1 dL_law_1472 rfl ?_
  refine V_iconst (pc := 1474) (v := 1) X dL_law_1474 (by decide) ?_
  refine V_iadd (pc := 1475) X dL_law_1475 ?_
  rw [nI_1]
  refine V_sld (pc := 1476) X hX hbl hbA (vp_in_nI (show i + 1 < L by omega) (by omega)) dL_law_1476 ?_
  rw [← hc1]
  refine V_callV (pc := 1477) X clk9 (by decide) mp1.k _ (n_up mp1 rm hI hT hC) cw_L_203 (hRm _ _ (by decide) (by decide)) rfl (Nat.le_of_ble_eq_true rfl) rfl (by omega) dL_law_1477 (fun _ _ z => z.elim) ?_
  rintro v2 h2 nk
  rw [hS] at nk
  obtain ⟨⟨F2, mp2, fm2, rm2, t2⟩, u, rfl, hu⟩ := nk
  have ls2 : LSt h2 q q2 o1 o2 A S.2.2 := LSt.next z1 fo1 fm2 mp2 rm2 kr.1 kr.2.1 ko1 oo1 ko2 oo2
  simp only [Option.toList_some, List.cons_append, List.nil_append]
  refine V_istore (pc := 1480) X [(7, .int _), (6, .int _), (5, .int _), (0, .ref _), (1, .ref _), (2, .ref _), (3, .ref _), (4, .ref _)] dL_law_1480 (by decide) rfl ?_
  refine V_aload_n (pc := 1482) X 5 dL_law_1482 rfl ?_
  refine V_callV (pc := 1483) X clk9 (by decide) mp2.k _ (m_thrown mp2) cw_L_129 (hRm _ _ (by decide) (by decide)) rfl (Nat.le_of_ble_eq_true rfl) rfl (by omega) dL_law_1483 (fun _ _ z => z.elim) ?_
  rintro v3 h3 ⟨rfl, e3⟩
  rw [e3, t2]
  simp only [Option.toList_some, List.cons_append, List.nil_append]
  refine V_iload (pc := 1486) X 1 dL_law_1486 rfl ?_
  refine V_icmp_eq (pc := 1488) X 1493 dL_law_1488 (by decide) (fun c1488 => ?_) (fun c1488 => ?_)
  · refine V_iload (pc := 1493) X 1 dL_law_1493 rfl ?_
    refine V_if_ne (pc := 1495) X 1510 dL_law_1495 (by decide) (fun c1495 => ?_) (fun c1495 => ?_)
    · refine V_goto (pc := 1510) X 2123 dL_law_1510 (by decide) ?_
      refine V.sub [2, 3, 4, 5, 6, 7] rfl (V.less (b' := 335 * (L - (i + 4)) + Ph S.2.2) (by have := kr.2.2.1; omega) (fin _ _ ls2))
    · have hS0 : S.1 = 0 := (nI_eq (b := 0) (by have := kr.2.2.2; omega) (by decide)).mp c1495
      have ou : qF h2 1600 o1 = .long u.toInt64 := LSt.out fo1 fm2 ko1 (by decide) oo1 (by rw [out1 hS0, ← hu hS0]; rfl)
      refine V_aload_n (pc := 1498) X 6 dL_law_1498 rfl ?_
      refine V_iconst (pc := 1499) (v := 0) X dL_law_1499 (by decide) ?_
      refine V_lald (pc := 1500) X ls2.2.2.2.2.1 ou dL_law_1500 ?_
      refine V_iload (pc := 1501) X 0 dL_law_1501 rfl ?_
      refine V_i2l (pc := 1503) X dL_law_1503 ?_
      refine V_lcmp (pc := 1504) X dL_law_1504 ?_
      refine V_if_eq (pc := 1505) X 1510 dL_law_1505 (by decide) (fun c1505 => ?_) (fun c1505 => ?_)
      · refine V_goto (pc := 1510) X 2123 dL_law_1510 (by decide) ?_
        refine V.sub [2, 3, 4, 5, 6, 7] rfl (V.less (b' := 335 * (L - (i + 4)) + Ph S.2.2) (by have := kr.2.2.1; omega) (fin _ _ ls2))
      · exact absurd (lg_cmp_self _) c1505
  · exact absurd rfl c1488
theorem cs_down {E : EV} {Γ : VG} {b0 L : Nat} {xs : Nat → Int32} (lw : LW E Γ b0 L xs) {h : AH} {q q2 o1 o2 i : Nat} {A : Nat → Nat} {s : SQ} (hi : i + 4 ≤ L) (ls : LSt h q q2 o1 o2 A s) (fin : ∀ (h2 : AH) (s2 : SQ), LSt h2 q q2 o1 o2 A s2 → V E Γ (335 * (L - (i + 4)) + Ph s2) h2 2123 [(5, .int (nI i)), (0, .ref b0), (1, .ref q), (2, .ref q2), (3, .ref o1), (4, .ref o2)] []) : V E Γ (335 * (L - i) + Ph s) h 1513 [(5, .int (nI i)), (0, .ref b0), (1, .ref q), (2, .ref q2), (3, .ref o1), (4, .ref o2)] [] := by
  obtain ⟨X, nx, hX, hbl, hbA, hRm, hL, -⟩ := lw
  obtain ⟨⟨G, z⟩, ⟨F, mp, rm⟩, hI, hT, ko1, oo1, ko2, oo2⟩ := ls
  have hC := z.codes
  have w := hI.ws
  obtain ⟨c1, hc1⟩ : ∃ c, c = xs (nI (i + 1)).toNatClampNeg := ⟨_, rfl⟩
  obtain ⟨c2, hc2⟩ : ∃ c, c = xs (nI (i + 2)).toNatClampNeg := ⟨_, rfl⟩
  obtain ⟨c3, hc3⟩ : ∃ c, c = xs (nI (i + 3)).toNatClampNeg := ⟨_, rfl⟩
  obtain ⟨d2, hd2⟩ : ∃ d, d = (c2.toUInt32 % 65536).toInt32 := ⟨_, rfl⟩
  obtain ⟨d3, hd3⟩ : ∃ d, d = (c3.toUInt32 % 65536).toInt32 := ⟨_, rfl⟩
  refine V_aload_n (pc := 1513) X 2 dL_law_1513 rfl ?_
  refine V_aload_n (pc := 1514) X 1 dL_law_1514 rfl ?_
  refine V_iload (pc := 1515) X 0 dL_law_1515 rfl ?_
  refine V_iconst (pc := 1517) (v := 1) X dL_law_1517 (by decide) ?_
  refine V_iadd (pc := 1518) X dL_law_1518 ?_
  rw [nI_1]
  refine V_sld (pc := 1519) X hX hbl hbA (vp_in_nI (show i + 1 < L by omega) (by omega)) dL_law_1519 ?_
  rw [← hc1]
  refine V_aload_n (pc := 1520) X 4 dL_law_1520 rfl ?_
  refine V_callW (pc := 1521) X nx _ (k_down (a1 := c1) z hI ko1 oo1) cw_L_204 (hRm _ _ (by decide) (by decide)) rfl (Nat.le_of_ble_eq_true rfl) rfl (by omega) dL_law_1521 ?_
  rintro v1 h1 ⟨rfl, ⟨G1, z1⟩, fo1, out1⟩
  simp only [Option.toList_some, List.cons_append, List.nil_append]
  have kr : KR s (smG (fun e => .int (nI ((zH s).length - eR (zE s e)))) c1 s) := smG_K hI hT
  have mp1 : MP h1 q2 A F := mp.fr fo1 (fun a y u => u y)
  generalize hS : smG (fun e => .int (nI ((zH s).length - eR (zE s e)))) c1 s = S at z1 out1 kr ⊢
  refine V_istore (pc := 1524) X [(6, .int _), (5, .int _), (0, .ref _), (1, .ref _), (2, .ref _), (3, .ref _), (4, .ref _)] dL_law_1524 (by decide) rfl ?_
  refine V_aload_n (pc := 1526) X 4 dL_law_1526 rfl ?_
  refine V_aload_n (pc := 1527) X 2 dL_law_1527 rfl ?_
  refine V_iload (pc := 1528) X 1 dL_law_1528 rfl ?_
  refine V_iconst (pc := 1530) (v := 1) X dL_law_1530 (by decide) ?_
  refine V_iadd (pc := 1531) X dL_law_1531 ?_
  rw [nI_1]
  refine V_sld (pc := 1532) X hX hbl hbA (vp_in_nI (show i + 1 < L by omega) (by omega)) dL_law_1532 ?_
  rw [← hc1]
  refine V_callV (pc := 1533) X clk9 (by decide) mp1.k _ (n_down mp1 rm hI hT hC) cw_L_206 (hRm _ _ (by decide) (by decide)) rfl (Nat.le_of_ble_eq_true rfl) rfl (by omega) dL_law_1533 (fun _ _ z => z.elim) ?_
  rintro v2 h2 nk
  rw [hS] at nk
  obtain ⟨⟨F2, mp2, fm2, rm2, t2⟩, u, rfl, hu⟩ := nk
  have ls2 : LSt h2 q q2 o1 o2 A S.2.2 := LSt.next z1 fo1 fm2 mp2 rm2 kr.1 kr.2.1 ko1 oo1 ko2 oo2
  simp only [Option.toList_some, List.cons_append, List.nil_append]
  refine V_istore (pc := 1536) X [(7, .int _), (6, .int _), (5, .int _), (0, .ref _), (1, .ref _), (2, .ref _), (3, .ref _), (4, .ref _)] dL_law_1536 (by decide) rfl ?_
  refine V_aload_n (pc := 1538) X 5 dL_law_1538 rfl ?_
  refine V_callV (pc := 1539) X clk9 (by decide) mp2.k _ (m_thrown mp2) cw_L_129 (hRm _ _ (by decide) (by decide)) rfl (Nat.le_of_ble_eq_true rfl) rfl (by omega) dL_law_1539 (fun _ _ z => z.elim) ?_
  rintro v3 h3 ⟨rfl, e3⟩
  rw [e3, t2]
  simp only [Option.toList_some, List.cons_append, List.nil_append]
  refine V_iload (pc := 1542) X 1 dL_law_1542 rfl ?_
  refine V_icmp_eq (pc := 1544) X 1549 dL_law_1544 (by decide) (fun c1544 => ?_) (fun c1544 => ?_)
  · refine V_iload (pc := 1549) X 1 dL_law_1549 rfl ?_
    refine V_if_ne (pc := 1551) X 1566 dL_law_1551 (by decide) (fun c1551 => ?_) (fun c1551 => ?_)
    · refine V_goto (pc := 1566) X 2123 dL_law_1566 (by decide) ?_
      refine V.sub [2, 3, 4, 5, 6, 7] rfl (V.less (b' := 335 * (L - (i + 4)) + Ph S.2.2) (by have := kr.2.2.1; omega) (fin _ _ ls2))
    · have hS0 : S.1 = 0 := (nI_eq (b := 0) (by have := kr.2.2.2; omega) (by decide)).mp c1551
      have ou : qF h2 1600 o1 = .long u.toInt64 := LSt.out fo1 fm2 ko1 (by decide) oo1 (by rw [out1 hS0, ← hu hS0]; rfl)
      refine V_aload_n (pc := 1554) X 6 dL_law_1554 rfl ?_
      refine V_iconst (pc := 1555) (v := 0) X dL_law_1555 (by decide) ?_
      refine V_lald (pc := 1556) X ls2.2.2.2.2.1 ou dL_law_1556 ?_
      refine V_iload (pc := 1557) X 0 dL_law_1557 rfl ?_
      refine V_i2l (pc := 1559) X dL_law_1559 ?_
      refine V_lcmp (pc := 1560) X dL_law_1560 ?_
      refine V_if_eq (pc := 1561) X 1566 dL_law_1561 (by decide) (fun c1561 => ?_) (fun c1561 => ?_)
      · refine V_goto (pc := 1566) X 2123 dL_law_1566 (by decide) ?_
        refine V.sub [2, 3, 4, 5, 6, 7] rfl (V.less (b' := 335 * (L - (i + 4)) + Ph S.2.2) (by have := kr.2.2.1; omega) (fin _ _ ls2))
      · exact absurd (lg_cmp_self _) c1561
  · exact absurd rfl c1544
theorem cs_kept {E : EV} {Γ : VG} {b0 L : Nat} {xs : Nat → Int32} (lw : LW E Γ b0 L xs) {h : AH} {q q2 o1 o2 i : Nat} {A : Nat → Nat} {s : SQ} (hi : i + 4 ≤ L) (ls : LSt h q q2 o1 o2 A s) (fin : ∀ (h2 : AH) (s2 : SQ), LSt h2 q q2 o1 o2 A s2 → V E Γ (335 * (L - (i + 4)) + Ph s2) h2 2123 [(5, .int (nI i)), (0, .ref b0), (1, .ref q), (2, .ref q2), (3, .ref o1), (4, .ref o2)] []) : V E Γ (335 * (L - i) + Ph s) h 1569 [(5, .int (nI i)), (0, .ref b0), (1, .ref q), (2, .ref q2), (3, .ref o1), (4, .ref o2)] [] := by
  obtain ⟨X, nx, hX, hbl, hbA, hRm, hL, -⟩ := lw
  obtain ⟨⟨G, z⟩, ⟨F, mp, rm⟩, hI, hT, ko1, oo1, ko2, oo2⟩ := ls
  have hC := z.codes
  have w := hI.ws
  obtain ⟨c1, hc1⟩ : ∃ c, c = xs (nI (i + 1)).toNatClampNeg := ⟨_, rfl⟩
  obtain ⟨c2, hc2⟩ : ∃ c, c = xs (nI (i + 2)).toNatClampNeg := ⟨_, rfl⟩
  obtain ⟨c3, hc3⟩ : ∃ c, c = xs (nI (i + 3)).toNatClampNeg := ⟨_, rfl⟩
  obtain ⟨d2, hd2⟩ : ∃ d, d = (c2.toUInt32 % 65536).toInt32 := ⟨_, rfl⟩
  obtain ⟨d3, hd3⟩ : ∃ d, d = (c3.toUInt32 % 65536).toInt32 := ⟨_, rfl⟩
  refine V_aload_n (pc := 1569) X 2 dL_law_1569 rfl ?_
  refine V_aload_n (pc := 1570) X 1 dL_law_1570 rfl ?_
  refine V_iload (pc := 1571) X 0 dL_law_1571 rfl ?_
  refine V_iconst (pc := 1573) (v := 1) X dL_law_1573 (by decide) ?_
  refine V_iadd (pc := 1574) X dL_law_1574 ?_
  rw [nI_1]
  refine V_sld (pc := 1575) X hX hbl hbA (vp_in_nI (show i + 1 < L by omega) (by omega)) dL_law_1575 ?_
  rw [← hc1]
  refine V_aload_n (pc := 1576) X 4 dL_law_1576 rfl ?_
  refine V_callW (pc := 1577) X nx _ (k_kept (a1 := c1) z hI ko1 oo1) cw_L_207 (hRm _ _ (by decide) (by decide)) rfl (Nat.le_of_ble_eq_true rfl) rfl (by omega) dL_law_1577 ?_
  rintro v1 h1 ⟨rfl, ⟨G1, z1⟩, fo1, out1⟩
  simp only [Option.toList_some, List.cons_append, List.nil_append]
  have kr : KR s (smG (fun e => .int (nI ((eK (zE s e)).length))) c1 s) := smG_K hI hT
  have mp1 : MP h1 q2 A F := mp.fr fo1 (fun a y u => u y)
  generalize hS : smG (fun e => .int (nI ((eK (zE s e)).length))) c1 s = S at z1 out1 kr ⊢
  refine V_istore (pc := 1580) X [(6, .int _), (5, .int _), (0, .ref _), (1, .ref _), (2, .ref _), (3, .ref _), (4, .ref _)] dL_law_1580 (by decide) rfl ?_
  refine V_aload_n (pc := 1582) X 4 dL_law_1582 rfl ?_
  refine V_aload_n (pc := 1583) X 2 dL_law_1583 rfl ?_
  refine V_iload (pc := 1584) X 1 dL_law_1584 rfl ?_
  refine V_iconst (pc := 1586) (v := 1) X dL_law_1586 (by decide) ?_
  refine V_iadd (pc := 1587) X dL_law_1587 ?_
  rw [nI_1]
  refine V_sld (pc := 1588) X hX hbl hbA (vp_in_nI (show i + 1 < L by omega) (by omega)) dL_law_1588 ?_
  rw [← hc1]
  refine V_callV (pc := 1589) X clk9 (by decide) mp1.k _ (n_kept mp1 rm hI hT hC) cw_L_209 (hRm _ _ (by decide) (by decide)) rfl (Nat.le_of_ble_eq_true rfl) rfl (by omega) dL_law_1589 (fun _ _ z => z.elim) ?_
  rintro v2 h2 nk
  rw [hS] at nk
  obtain ⟨⟨F2, mp2, fm2, rm2, t2⟩, u, rfl, hu⟩ := nk
  have ls2 : LSt h2 q q2 o1 o2 A S.2.2 := LSt.next z1 fo1 fm2 mp2 rm2 kr.1 kr.2.1 ko1 oo1 ko2 oo2
  simp only [Option.toList_some, List.cons_append, List.nil_append]
  refine V_istore (pc := 1592) X [(7, .int _), (6, .int _), (5, .int _), (0, .ref _), (1, .ref _), (2, .ref _), (3, .ref _), (4, .ref _)] dL_law_1592 (by decide) rfl ?_
  refine V_aload_n (pc := 1594) X 5 dL_law_1594 rfl ?_
  refine V_callV (pc := 1595) X clk9 (by decide) mp2.k _ (m_thrown mp2) cw_L_129 (hRm _ _ (by decide) (by decide)) rfl (Nat.le_of_ble_eq_true rfl) rfl (by omega) dL_law_1595 (fun _ _ z => z.elim) ?_
  rintro v3 h3 ⟨rfl, e3⟩
  rw [e3, t2]
  simp only [Option.toList_some, List.cons_append, List.nil_append]
  refine V_iload (pc := 1598) X 1 dL_law_1598 rfl ?_
  refine V_icmp_eq (pc := 1600) X 1605 dL_law_1600 (by decide) (fun c1600 => ?_) (fun c1600 => ?_)
  · refine V_iload (pc := 1605) X 1 dL_law_1605 rfl ?_
    refine V_if_ne (pc := 1607) X 1622 dL_law_1607 (by decide) (fun c1607 => ?_) (fun c1607 => ?_)
    · refine V_goto (pc := 1622) X 2123 dL_law_1622 (by decide) ?_
      refine V.sub [2, 3, 4, 5, 6, 7] rfl (V.less (b' := 335 * (L - (i + 4)) + Ph S.2.2) (by have := kr.2.2.1; omega) (fin _ _ ls2))
    · have hS0 : S.1 = 0 := (nI_eq (b := 0) (by have := kr.2.2.2; omega) (by decide)).mp c1607
      have ou : qF h2 1600 o1 = .long u.toInt64 := LSt.out fo1 fm2 ko1 (by decide) oo1 (by rw [out1 hS0, ← hu hS0]; rfl)
      refine V_aload_n (pc := 1610) X 6 dL_law_1610 rfl ?_
      refine V_iconst (pc := 1611) (v := 0) X dL_law_1611 (by decide) ?_
      refine V_lald (pc := 1612) X ls2.2.2.2.2.1 ou dL_law_1612 ?_
      refine V_iload (pc := 1613) X 0 dL_law_1613 rfl ?_
      refine V_i2l (pc := 1615) X dL_law_1615 ?_
      refine V_lcmp (pc := 1616) X dL_law_1616 ?_
      refine V_if_eq (pc := 1617) X 1622 dL_law_1617 (by decide) (fun c1617 => ?_) (fun c1617 => ?_)
      · refine V_goto (pc := 1622) X 2123 dL_law_1622 (by decide) ?_
        refine V.sub [2, 3, 4, 5, 6, 7] rfl (V.less (b' := 335 * (L - (i + 4)) + Ph S.2.2) (by have := kr.2.2.1; omega) (fin _ _ ls2))
      · exact absurd (lg_cmp_self _) c1617
  · exact absurd rfl c1600
theorem cs_centreRevision {E : EV} {Γ : VG} {b0 L : Nat} {xs : Nat → Int32} (lw : LW E Γ b0 L xs) {h : AH} {q q2 o1 o2 i : Nat} {A : Nat → Nat} {s : SQ} (hi : i + 4 ≤ L) (ls : LSt h q q2 o1 o2 A s) (fin : ∀ (h2 : AH) (s2 : SQ), LSt h2 q q2 o1 o2 A s2 → V E Γ (335 * (L - (i + 4)) + Ph s2) h2 2123 [(5, .int (nI i)), (0, .ref b0), (1, .ref q), (2, .ref q2), (3, .ref o1), (4, .ref o2)] []) : V E Γ (335 * (L - i) + Ph s) h 1625 [(5, .int (nI i)), (0, .ref b0), (1, .ref q), (2, .ref q2), (3, .ref o1), (4, .ref o2)] [] := by
  obtain ⟨X, nx, hX, hbl, hbA, hRm, hL, -⟩ := lw
  obtain ⟨⟨G, z⟩, ⟨F, mp, rm⟩, hI, hT, ko1, oo1, ko2, oo2⟩ := ls
  have hC := z.codes
  have w := hI.ws
  obtain ⟨c1, hc1⟩ : ∃ c, c = xs (nI (i + 1)).toNatClampNeg := ⟨_, rfl⟩
  obtain ⟨c2, hc2⟩ : ∃ c, c = xs (nI (i + 2)).toNatClampNeg := ⟨_, rfl⟩
  obtain ⟨c3, hc3⟩ : ∃ c, c = xs (nI (i + 3)).toNatClampNeg := ⟨_, rfl⟩
  obtain ⟨d2, hd2⟩ : ∃ d, d = (c2.toUInt32 % 65536).toInt32 := ⟨_, rfl⟩
  obtain ⟨d3, hd3⟩ : ∃ d, d = (c3.toUInt32 % 65536).toInt32 := ⟨_, rfl⟩
  refine V_aload_n (pc := 1625) X 2 dL_law_1625 rfl ?_
  refine V_callV (pc := 1626) X clk8 (by decide) z.k _ (x_centreRevision z w) cw_L_210 (hRm _ _ (by decide) (by decide)) rfl (Nat.le_of_ble_eq_true rfl) rfl (by omega) dL_law_1626 (fun _ _ z => z.elim) ?_
  rintro v1 h1 ⟨rfl, e1⟩
  have mp1 : MP h1 q2 A F := by rw [e1]; exact mp
  simp only [Option.toList_some, List.cons_append, List.nil_append]
  refine V_aload_n (pc := 1629) X 3 dL_law_1629 rfl ?_
  refine V_callV (pc := 1630) X clk9 (by decide) mp1.k _ (y_centreRevision mp1 rm w hI.hH) cw_L_213 (hRm _ _ (by decide) (by decide)) rfl (Nat.le_of_ble_eq_true rfl) rfl (by omega) dL_law_1630 (fun _ _ z => z.elim) ?_
  rintro v2 h2 ⟨rfl, F2, mp2, fm2, rm2, t2⟩
  have ls2 : LSt h2 q q2 o1 o2 A s := LSt.next (h := h) (h1 := h1) (G1 := G) (by rw [e1]; exact z) (by rw [e1]; exact FO.refl h) fm2 mp2 rm2 hI hT ko1 oo1 ko2 oo2
  simp only [Option.toList_some, List.cons_append, List.nil_append]
  refine V_icmp_eq (pc := 1633) X 2123 dL_law_1633 (by decide) (fun c1633 => ?_) (fun c1633 => ?_)
  · exact V.less (b' := 335 * (L - (i + 4)) + Ph s) (by omega) (fin _ _ ls2)
  · exact absurd rfl c1633
theorem cs_historyEnd {E : EV} {Γ : VG} {b0 L : Nat} {xs : Nat → Int32} (lw : LW E Γ b0 L xs) {h : AH} {q q2 o1 o2 i : Nat} {A : Nat → Nat} {s : SQ} (hi : i + 4 ≤ L) (ls : LSt h q q2 o1 o2 A s) (fin : ∀ (h2 : AH) (s2 : SQ), LSt h2 q q2 o1 o2 A s2 → V E Γ (335 * (L - (i + 4)) + Ph s2) h2 2123 [(5, .int (nI i)), (0, .ref b0), (1, .ref q), (2, .ref q2), (3, .ref o1), (4, .ref o2)] []) : V E Γ (335 * (L - i) + Ph s) h 1638 [(5, .int (nI i)), (0, .ref b0), (1, .ref q), (2, .ref q2), (3, .ref o1), (4, .ref o2)] [] := by
  obtain ⟨X, nx, hX, hbl, hbA, hRm, hL, -⟩ := lw
  obtain ⟨⟨G, z⟩, ⟨F, mp, rm⟩, hI, hT, ko1, oo1, ko2, oo2⟩ := ls
  have hC := z.codes
  have w := hI.ws
  obtain ⟨c1, hc1⟩ : ∃ c, c = xs (nI (i + 1)).toNatClampNeg := ⟨_, rfl⟩
  obtain ⟨c2, hc2⟩ : ∃ c, c = xs (nI (i + 2)).toNatClampNeg := ⟨_, rfl⟩
  obtain ⟨c3, hc3⟩ : ∃ c, c = xs (nI (i + 3)).toNatClampNeg := ⟨_, rfl⟩
  obtain ⟨d2, hd2⟩ : ∃ d, d = (c2.toUInt32 % 65536).toInt32 := ⟨_, rfl⟩
  obtain ⟨d3, hd3⟩ : ∃ d, d = (c3.toUInt32 % 65536).toInt32 := ⟨_, rfl⟩
  refine V_aload_n (pc := 1638) X 2 dL_law_1638 rfl ?_
  refine V_aload_n (pc := 1639) X 1 dL_law_1639 rfl ?_
  refine V_iload (pc := 1640) X 0 dL_law_1640 rfl ?_
  refine V_iconst (pc := 1642) (v := 1) X dL_law_1642 (by decide) ?_
  refine V_iadd (pc := 1643) X dL_law_1643 ?_
  rw [nI_1]
  refine V_sld (pc := 1644) X hX hbl hbA (vp_in_nI (show i + 1 < L by omega) (by omega)) dL_law_1644 ?_
  rw [← hc1]
  refine V_aload_n (pc := 1645) X 4 dL_law_1645 rfl ?_
  refine V_callW (pc := 1646) X nx _ (k_historyEnd (a1 := c1) z hI ko1 oo1) cw_L_214 (hRm _ _ (by decide) (by decide)) rfl (Nat.le_of_ble_eq_true rfl) rfl (by omega) dL_law_1646 ?_
  rintro v1 h1 ⟨rfl, ⟨G1, z1⟩, fo1, out1⟩
  simp only [Option.toList_some, List.cons_append, List.nil_append]
  have kr : KR s (smH (fun m => .int (nI m.1)) c1 s) := smH_K hI hT
  have mp1 : MP h1 q2 A F := mp.fr fo1 (fun a y u => u y)
  generalize hS : smH (fun m => .int (nI m.1)) c1 s = S at z1 out1 kr ⊢
  refine V_istore (pc := 1649) X [(6, .int _), (5, .int _), (0, .ref _), (1, .ref _), (2, .ref _), (3, .ref _), (4, .ref _)] dL_law_1649 (by decide) rfl ?_
  refine V_aload_n (pc := 1651) X 4 dL_law_1651 rfl ?_
  refine V_aload_n (pc := 1652) X 2 dL_law_1652 rfl ?_
  refine V_iload (pc := 1653) X 1 dL_law_1653 rfl ?_
  refine V_iconst (pc := 1655) (v := 1) X dL_law_1655 (by decide) ?_
  refine V_iadd (pc := 1656) X dL_law_1656 ?_
  rw [nI_1]
  refine V_sld (pc := 1657) X hX hbl hbA (vp_in_nI (show i + 1 < L by omega) (by omega)) dL_law_1657 ?_
  rw [← hc1]
  refine V_callV (pc := 1658) X clk9 (by decide) mp1.k _ (n_historyEnd mp1 rm hI hT hC) cw_L_216 (hRm _ _ (by decide) (by decide)) rfl (Nat.le_of_ble_eq_true rfl) rfl (by omega) dL_law_1658 (fun _ _ z => z.elim) ?_
  rintro v2 h2 nk
  rw [hS] at nk
  obtain ⟨⟨F2, mp2, fm2, rm2, t2⟩, u, rfl, hu⟩ := nk
  have ls2 : LSt h2 q q2 o1 o2 A S.2.2 := LSt.next z1 fo1 fm2 mp2 rm2 kr.1 kr.2.1 ko1 oo1 ko2 oo2
  simp only [Option.toList_some, List.cons_append, List.nil_append]
  refine V_istore (pc := 1661) X [(7, .int _), (6, .int _), (5, .int _), (0, .ref _), (1, .ref _), (2, .ref _), (3, .ref _), (4, .ref _)] dL_law_1661 (by decide) rfl ?_
  refine V_aload_n (pc := 1663) X 5 dL_law_1663 rfl ?_
  refine V_callV (pc := 1664) X clk9 (by decide) mp2.k _ (m_thrown mp2) cw_L_129 (hRm _ _ (by decide) (by decide)) rfl (Nat.le_of_ble_eq_true rfl) rfl (by omega) dL_law_1664 (fun _ _ z => z.elim) ?_
  rintro v3 h3 ⟨rfl, e3⟩
  rw [e3, t2]
  simp only [Option.toList_some, List.cons_append, List.nil_append]
  refine V_iload (pc := 1667) X 1 dL_law_1667 rfl ?_
  refine V_icmp_eq (pc := 1669) X 1674 dL_law_1669 (by decide) (fun c1669 => ?_) (fun c1669 => ?_)
  · refine V_iload (pc := 1674) X 1 dL_law_1674 rfl ?_
    refine V_if_ne (pc := 1676) X 1691 dL_law_1676 (by decide) (fun c1676 => ?_) (fun c1676 => ?_)
    · refine V_goto (pc := 1691) X 2123 dL_law_1691 (by decide) ?_
      refine V.sub [2, 3, 4, 5, 6, 7] rfl (V.less (b' := 335 * (L - (i + 4)) + Ph S.2.2) (by have := kr.2.2.1; omega) (fin _ _ ls2))
    · have hS0 : S.1 = 0 := (nI_eq (b := 0) (by have := kr.2.2.2; omega) (by decide)).mp c1676
      have ou : qF h2 1600 o1 = .long u.toInt64 := LSt.out fo1 fm2 ko1 (by decide) oo1 (by rw [out1 hS0, ← hu hS0]; rfl)
      refine V_aload_n (pc := 1679) X 6 dL_law_1679 rfl ?_
      refine V_iconst (pc := 1680) (v := 0) X dL_law_1680 (by decide) ?_
      refine V_lald (pc := 1681) X ls2.2.2.2.2.1 ou dL_law_1681 ?_
      refine V_iload (pc := 1682) X 0 dL_law_1682 rfl ?_
      refine V_i2l (pc := 1684) X dL_law_1684 ?_
      refine V_lcmp (pc := 1685) X dL_law_1685 ?_
      refine V_if_eq (pc := 1686) X 1691 dL_law_1686 (by decide) (fun c1686 => ?_) (fun c1686 => ?_)
      · refine V_goto (pc := 1691) X 2123 dL_law_1691 (by decide) ?_
        refine V.sub [2, 3, 4, 5, 6, 7] rfl (V.less (b' := 335 * (L - (i + 4)) + Ph S.2.2) (by have := kr.2.2.1; omega) (fin _ _ ls2))
      · exact absurd (lg_cmp_self _) c1686
  · exact absurd rfl c1669
theorem cs_historySize {E : EV} {Γ : VG} {b0 L : Nat} {xs : Nat → Int32} (lw : LW E Γ b0 L xs) {h : AH} {q q2 o1 o2 i : Nat} {A : Nat → Nat} {s : SQ} (hi : i + 4 ≤ L) (ls : LSt h q q2 o1 o2 A s) (fin : ∀ (h2 : AH) (s2 : SQ), LSt h2 q q2 o1 o2 A s2 → V E Γ (335 * (L - (i + 4)) + Ph s2) h2 2123 [(5, .int (nI i)), (0, .ref b0), (1, .ref q), (2, .ref q2), (3, .ref o1), (4, .ref o2)] []) : V E Γ (335 * (L - i) + Ph s) h 1694 [(5, .int (nI i)), (0, .ref b0), (1, .ref q), (2, .ref q2), (3, .ref o1), (4, .ref o2)] [] := by
  obtain ⟨X, nx, hX, hbl, hbA, hRm, hL, -⟩ := lw
  obtain ⟨⟨G, z⟩, ⟨F, mp, rm⟩, hI, hT, ko1, oo1, ko2, oo2⟩ := ls
  have hC := z.codes
  have w := hI.ws
  obtain ⟨c1, hc1⟩ : ∃ c, c = xs (nI (i + 1)).toNatClampNeg := ⟨_, rfl⟩
  obtain ⟨c2, hc2⟩ : ∃ c, c = xs (nI (i + 2)).toNatClampNeg := ⟨_, rfl⟩
  obtain ⟨c3, hc3⟩ : ∃ c, c = xs (nI (i + 3)).toNatClampNeg := ⟨_, rfl⟩
  obtain ⟨d2, hd2⟩ : ∃ d, d = (c2.toUInt32 % 65536).toInt32 := ⟨_, rfl⟩
  obtain ⟨d3, hd3⟩ : ∃ d, d = (c3.toUInt32 % 65536).toInt32 := ⟨_, rfl⟩
  refine V_aload_n (pc := 1694) X 2 dL_law_1694 rfl ?_
  refine V_aload_n (pc := 1695) X 1 dL_law_1695 rfl ?_
  refine V_iload (pc := 1696) X 0 dL_law_1696 rfl ?_
  refine V_iconst (pc := 1698) (v := 1) X dL_law_1698 (by decide) ?_
  refine V_iadd (pc := 1699) X dL_law_1699 ?_
  rw [nI_1]
  refine V_sld (pc := 1700) X hX hbl hbA (vp_in_nI (show i + 1 < L by omega) (by omega)) dL_law_1700 ?_
  rw [← hc1]
  refine V_aload_n (pc := 1701) X 4 dL_law_1701 rfl ?_
  refine V_callW (pc := 1702) X nx _ (k_historySize (a1 := c1) z hI ko1 oo1) cw_L_217 (hRm _ _ (by decide) (by decide)) rfl (Nat.le_of_ble_eq_true rfl) rfl (by omega) dL_law_1702 ?_
  rintro v1 h1 ⟨rfl, ⟨G1, z1⟩, fo1, out1⟩
  simp only [Option.toList_some, List.cons_append, List.nil_append]
  have kr : KR s (smH (fun m => .int (nI m.2.2.length)) c1 s) := smH_K hI hT
  have mp1 : MP h1 q2 A F := mp.fr fo1 (fun a y u => u y)
  generalize hS : smH (fun m => .int (nI m.2.2.length)) c1 s = S at z1 out1 kr ⊢
  refine V_istore (pc := 1705) X [(6, .int _), (5, .int _), (0, .ref _), (1, .ref _), (2, .ref _), (3, .ref _), (4, .ref _)] dL_law_1705 (by decide) rfl ?_
  refine V_aload_n (pc := 1707) X 4 dL_law_1707 rfl ?_
  refine V_aload_n (pc := 1708) X 2 dL_law_1708 rfl ?_
  refine V_iload (pc := 1709) X 1 dL_law_1709 rfl ?_
  refine V_iconst (pc := 1711) (v := 1) X dL_law_1711 (by decide) ?_
  refine V_iadd (pc := 1712) X dL_law_1712 ?_
  rw [nI_1]
  refine V_sld (pc := 1713) X hX hbl hbA (vp_in_nI (show i + 1 < L by omega) (by omega)) dL_law_1713 ?_
  rw [← hc1]
  refine V_callV (pc := 1714) X clk9 (by decide) mp1.k _ (n_historySize mp1 rm hI hT hC) cw_L_219 (hRm _ _ (by decide) (by decide)) rfl (Nat.le_of_ble_eq_true rfl) rfl (by omega) dL_law_1714 (fun _ _ z => z.elim) ?_
  rintro v2 h2 nk
  rw [hS] at nk
  obtain ⟨⟨F2, mp2, fm2, rm2, t2⟩, u, rfl, hu⟩ := nk
  have ls2 : LSt h2 q q2 o1 o2 A S.2.2 := LSt.next z1 fo1 fm2 mp2 rm2 kr.1 kr.2.1 ko1 oo1 ko2 oo2
  simp only [Option.toList_some, List.cons_append, List.nil_append]
  refine V_istore (pc := 1717) X [(7, .int _), (6, .int _), (5, .int _), (0, .ref _), (1, .ref _), (2, .ref _), (3, .ref _), (4, .ref _)] dL_law_1717 (by decide) rfl ?_
  refine V_aload_n (pc := 1719) X 5 dL_law_1719 rfl ?_
  refine V_callV (pc := 1720) X clk9 (by decide) mp2.k _ (m_thrown mp2) cw_L_129 (hRm _ _ (by decide) (by decide)) rfl (Nat.le_of_ble_eq_true rfl) rfl (by omega) dL_law_1720 (fun _ _ z => z.elim) ?_
  rintro v3 h3 ⟨rfl, e3⟩
  rw [e3, t2]
  simp only [Option.toList_some, List.cons_append, List.nil_append]
  refine V_iload (pc := 1723) X 1 dL_law_1723 rfl ?_
  refine V_icmp_eq (pc := 1725) X 1730 dL_law_1725 (by decide) (fun c1725 => ?_) (fun c1725 => ?_)
  · refine V_iload (pc := 1730) X 1 dL_law_1730 rfl ?_
    refine V_if_ne (pc := 1732) X 1747 dL_law_1732 (by decide) (fun c1732 => ?_) (fun c1732 => ?_)
    · refine V_goto (pc := 1747) X 2123 dL_law_1747 (by decide) ?_
      refine V.sub [2, 3, 4, 5, 6, 7] rfl (V.less (b' := 335 * (L - (i + 4)) + Ph S.2.2) (by have := kr.2.2.1; omega) (fin _ _ ls2))
    · have hS0 : S.1 = 0 := (nI_eq (b := 0) (by have := kr.2.2.2; omega) (by decide)).mp c1732
      have ou : qF h2 1600 o1 = .long u.toInt64 := LSt.out fo1 fm2 ko1 (by decide) oo1 (by rw [out1 hS0, ← hu hS0]; rfl)
      refine V_aload_n (pc := 1735) X 6 dL_law_1735 rfl ?_
      refine V_iconst (pc := 1736) (v := 0) X dL_law_1736 (by decide) ?_
      refine V_lald (pc := 1737) X ls2.2.2.2.2.1 ou dL_law_1737 ?_
      refine V_iload (pc := 1738) X 0 dL_law_1738 rfl ?_
      refine V_i2l (pc := 1740) X dL_law_1740 ?_
      refine V_lcmp (pc := 1741) X dL_law_1741 ?_
      refine V_if_eq (pc := 1742) X 1747 dL_law_1742 (by decide) (fun c1742 => ?_) (fun c1742 => ?_)
      · refine V_goto (pc := 1747) X 2123 dL_law_1747 (by decide) ?_
        refine V.sub [2, 3, 4, 5, 6, 7] rfl (V.less (b' := 335 * (L - (i + 4)) + Ph S.2.2) (by have := kr.2.2.1; omega) (fin _ _ ls2))
      · exact absurd (lg_cmp_self _) c1742
  · exact absurd rfl c1725
theorem cs_historyKind {E : EV} {Γ : VG} {b0 L : Nat} {xs : Nat → Int32} (lw : LW E Γ b0 L xs) {h : AH} {q q2 o1 o2 i : Nat} {A : Nat → Nat} {s : SQ} (hi : i + 4 ≤ L) (ls : LSt h q q2 o1 o2 A s) (fin : ∀ (h2 : AH) (s2 : SQ), LSt h2 q q2 o1 o2 A s2 → V E Γ (335 * (L - (i + 4)) + Ph s2) h2 2123 [(5, .int (nI i)), (0, .ref b0), (1, .ref q), (2, .ref q2), (3, .ref o1), (4, .ref o2)] []) : V E Γ (335 * (L - i) + Ph s) h 1750 [(5, .int (nI i)), (0, .ref b0), (1, .ref q), (2, .ref q2), (3, .ref o1), (4, .ref o2)] [] := by
  obtain ⟨X, nx, hX, hbl, hbA, hRm, hL, -⟩ := lw
  obtain ⟨⟨G, z⟩, ⟨F, mp, rm⟩, hI, hT, ko1, oo1, ko2, oo2⟩ := ls
  have hC := z.codes
  have w := hI.ws
  obtain ⟨c1, hc1⟩ : ∃ c, c = xs (nI (i + 1)).toNatClampNeg := ⟨_, rfl⟩
  obtain ⟨c2, hc2⟩ : ∃ c, c = xs (nI (i + 2)).toNatClampNeg := ⟨_, rfl⟩
  obtain ⟨c3, hc3⟩ : ∃ c, c = xs (nI (i + 3)).toNatClampNeg := ⟨_, rfl⟩
  obtain ⟨d2, hd2⟩ : ∃ d, d = (c2.toUInt32 % 65536).toInt32 := ⟨_, rfl⟩
  obtain ⟨d3, hd3⟩ : ∃ d, d = (c3.toUInt32 % 65536).toInt32 := ⟨_, rfl⟩
  refine V_aload_n (pc := 1750) X 2 dL_law_1750 rfl ?_
  refine V_aload_n (pc := 1751) X 1 dL_law_1751 rfl ?_
  refine V_iload (pc := 1752) X 0 dL_law_1752 rfl ?_
  refine V_iconst (pc := 1754) (v := 1) X dL_law_1754 (by decide) ?_
  refine V_iadd (pc := 1755) X dL_law_1755 ?_
  rw [nI_1]
  refine V_sld (pc := 1756) X hX hbl hbA (vp_in_nI (show i + 1 < L by omega) (by omega)) dL_law_1756 ?_
  rw [← hc1]
  refine V_aload_n (pc := 1757) X 1 dL_law_1757 rfl ?_
  refine V_iload (pc := 1758) X 0 dL_law_1758 rfl ?_
  refine V_iconst (pc := 1760) (v := 2) X dL_law_1760 (by decide) ?_
  refine V_iadd (pc := 1761) X dL_law_1761 ?_
  rw [nI_2]
  refine V_sld (pc := 1762) X hX hbl hbA (vp_in_nI (show i + 2 < L by omega) (by omega)) dL_law_1762 ?_
  rw [← hc2]
  refine V_aload_n (pc := 1763) X 4 dL_law_1763 rfl ?_
  refine V_callW (pc := 1764) X nx _ (k_historyKind (a1 := c1) z hI ko1 oo1) cw_L_220 (hRm _ _ (by decide) (by decide)) rfl (Nat.le_of_ble_eq_true rfl) rfl (by omega) dL_law_1764 ?_
  rintro v1 h1 ⟨rfl, ⟨G1, z1⟩, fo1, out1⟩
  simp only [Option.toList_some, List.cons_append, List.nil_append]
  have kr : KR s (smHo (fun o => .int (kc o.1)) c1 c2 s) := smHo_K hI hT
  have mp1 : MP h1 q2 A F := mp.fr fo1 (fun a y u => u y)
  generalize hS : smHo (fun o => .int (kc o.1)) c1 c2 s = S at z1 out1 kr ⊢
  refine V_istore (pc := 1767) X [(6, .int _), (5, .int _), (0, .ref _), (1, .ref _), (2, .ref _), (3, .ref _), (4, .ref _)] dL_law_1767 (by decide) rfl ?_
  refine V_aload_n (pc := 1769) X 4 dL_law_1769 rfl ?_
  refine V_aload_n (pc := 1770) X 2 dL_law_1770 rfl ?_
  refine V_iload (pc := 1771) X 1 dL_law_1771 rfl ?_
  refine V_iconst (pc := 1773) (v := 1) X dL_law_1773 (by decide) ?_
  refine V_iadd (pc := 1774) X dL_law_1774 ?_
  rw [nI_1]
  refine V_sld (pc := 1775) X hX hbl hbA (vp_in_nI (show i + 1 < L by omega) (by omega)) dL_law_1775 ?_
  rw [← hc1]
  refine V_aload_n (pc := 1776) X 2 dL_law_1776 rfl ?_
  refine V_iload (pc := 1777) X 1 dL_law_1777 rfl ?_
  refine V_iconst (pc := 1779) (v := 2) X dL_law_1779 (by decide) ?_
  refine V_iadd (pc := 1780) X dL_law_1780 ?_
  rw [nI_2]
  refine V_sld (pc := 1781) X hX hbl hbA (vp_in_nI (show i + 2 < L by omega) (by omega)) dL_law_1781 ?_
  rw [← hc2]
  refine V_callV (pc := 1782) X clk9 (by decide) mp1.k _ (n_historyKind mp1 rm hI hT hC) cw_L_222 (hRm _ _ (by decide) (by decide)) rfl (Nat.le_of_ble_eq_true rfl) rfl (by omega) dL_law_1782 (fun _ _ z => z.elim) ?_
  rintro v2 h2 nk
  rw [hS] at nk
  obtain ⟨⟨F2, mp2, fm2, rm2, t2⟩, u, rfl, hu⟩ := nk
  have ls2 : LSt h2 q q2 o1 o2 A S.2.2 := LSt.next z1 fo1 fm2 mp2 rm2 kr.1 kr.2.1 ko1 oo1 ko2 oo2
  simp only [Option.toList_some, List.cons_append, List.nil_append]
  refine V_istore (pc := 1785) X [(7, .int _), (6, .int _), (5, .int _), (0, .ref _), (1, .ref _), (2, .ref _), (3, .ref _), (4, .ref _)] dL_law_1785 (by decide) rfl ?_
  refine V_aload_n (pc := 1787) X 5 dL_law_1787 rfl ?_
  refine V_callV (pc := 1788) X clk9 (by decide) mp2.k _ (m_thrown mp2) cw_L_129 (hRm _ _ (by decide) (by decide)) rfl (Nat.le_of_ble_eq_true rfl) rfl (by omega) dL_law_1788 (fun _ _ z => z.elim) ?_
  rintro v3 h3 ⟨rfl, e3⟩
  rw [e3, t2]
  simp only [Option.toList_some, List.cons_append, List.nil_append]
  refine V_iload (pc := 1791) X 1 dL_law_1791 rfl ?_
  refine V_icmp_eq (pc := 1793) X 1798 dL_law_1793 (by decide) (fun c1793 => ?_) (fun c1793 => ?_)
  · refine V_iload (pc := 1798) X 1 dL_law_1798 rfl ?_
    refine V_if_ne (pc := 1800) X 1815 dL_law_1800 (by decide) (fun c1800 => ?_) (fun c1800 => ?_)
    · refine V_goto (pc := 1815) X 2123 dL_law_1815 (by decide) ?_
      refine V.sub [2, 3, 4, 5, 6, 7] rfl (V.less (b' := 335 * (L - (i + 4)) + Ph S.2.2) (by have := kr.2.2.1; omega) (fin _ _ ls2))
    · have hS0 : S.1 = 0 := (nI_eq (b := 0) (by have := kr.2.2.2; omega) (by decide)).mp c1800
      have ou : qF h2 1600 o1 = .long u.toInt64 := LSt.out fo1 fm2 ko1 (by decide) oo1 (by rw [out1 hS0, ← hu hS0]; rfl)
      refine V_aload_n (pc := 1803) X 6 dL_law_1803 rfl ?_
      refine V_iconst (pc := 1804) (v := 0) X dL_law_1804 (by decide) ?_
      refine V_lald (pc := 1805) X ls2.2.2.2.2.1 ou dL_law_1805 ?_
      refine V_iload (pc := 1806) X 0 dL_law_1806 rfl ?_
      refine V_i2l (pc := 1808) X dL_law_1808 ?_
      refine V_lcmp (pc := 1809) X dL_law_1809 ?_
      refine V_if_eq (pc := 1810) X 1815 dL_law_1810 (by decide) (fun c1810 => ?_) (fun c1810 => ?_)
      · refine V_goto (pc := 1815) X 2123 dL_law_1815 (by decide) ?_
        refine V.sub [2, 3, 4, 5, 6, 7] rfl (V.less (b' := 335 * (L - (i + 4)) + Ph S.2.2) (by have := kr.2.2.1; omega) (fin _ _ ls2))
      · exact absurd (lg_cmp_self _) c1810
  · exact absurd rfl c1793
theorem cs_historyPosition {E : EV} {Γ : VG} {b0 L : Nat} {xs : Nat → Int32} (lw : LW E Γ b0 L xs) {h : AH} {q q2 o1 o2 i : Nat} {A : Nat → Nat} {s : SQ} (hi : i + 4 ≤ L) (ls : LSt h q q2 o1 o2 A s) (fin : ∀ (h2 : AH) (s2 : SQ), LSt h2 q q2 o1 o2 A s2 → V E Γ (335 * (L - (i + 4)) + Ph s2) h2 2123 [(5, .int (nI i)), (0, .ref b0), (1, .ref q), (2, .ref q2), (3, .ref o1), (4, .ref o2)] []) : V E Γ (335 * (L - i) + Ph s) h 1818 [(5, .int (nI i)), (0, .ref b0), (1, .ref q), (2, .ref q2), (3, .ref o1), (4, .ref o2)] [] := by
  obtain ⟨X, nx, hX, hbl, hbA, hRm, hL, -⟩ := lw
  obtain ⟨⟨G, z⟩, ⟨F, mp, rm⟩, hI, hT, ko1, oo1, ko2, oo2⟩ := ls
  have hC := z.codes
  have w := hI.ws
  obtain ⟨c1, hc1⟩ : ∃ c, c = xs (nI (i + 1)).toNatClampNeg := ⟨_, rfl⟩
  obtain ⟨c2, hc2⟩ : ∃ c, c = xs (nI (i + 2)).toNatClampNeg := ⟨_, rfl⟩
  obtain ⟨c3, hc3⟩ : ∃ c, c = xs (nI (i + 3)).toNatClampNeg := ⟨_, rfl⟩
  obtain ⟨d2, hd2⟩ : ∃ d, d = (c2.toUInt32 % 65536).toInt32 := ⟨_, rfl⟩
  obtain ⟨d3, hd3⟩ : ∃ d, d = (c3.toUInt32 % 65536).toInt32 := ⟨_, rfl⟩
  refine V_aload_n (pc := 1818) X 2 dL_law_1818 rfl ?_
  refine V_aload_n (pc := 1819) X 1 dL_law_1819 rfl ?_
  refine V_iload (pc := 1820) X 0 dL_law_1820 rfl ?_
  refine V_iconst (pc := 1822) (v := 1) X dL_law_1822 (by decide) ?_
  refine V_iadd (pc := 1823) X dL_law_1823 ?_
  rw [nI_1]
  refine V_sld (pc := 1824) X hX hbl hbA (vp_in_nI (show i + 1 < L by omega) (by omega)) dL_law_1824 ?_
  rw [← hc1]
  refine V_aload_n (pc := 1825) X 1 dL_law_1825 rfl ?_
  refine V_iload (pc := 1826) X 0 dL_law_1826 rfl ?_
  refine V_iconst (pc := 1828) (v := 2) X dL_law_1828 (by decide) ?_
  refine V_iadd (pc := 1829) X dL_law_1829 ?_
  rw [nI_2]
  refine V_sld (pc := 1830) X hX hbl hbA (vp_in_nI (show i + 2 < L by omega) (by omega)) dL_law_1830 ?_
  rw [← hc2]
  refine V_aload_n (pc := 1831) X 4 dL_law_1831 rfl ?_
  refine V_callW (pc := 1832) X nx _ (k_historyPosition (a1 := c1) z hI ko1 oo1) cw_L_223 (hRm _ _ (by decide) (by decide)) rfl (Nat.le_of_ble_eq_true rfl) rfl (by omega) dL_law_1832 ?_
  rintro v1 h1 ⟨rfl, ⟨G1, z1⟩, fo1, out1⟩
  simp only [Option.toList_some, List.cons_append, List.nil_append]
  have kr : KR s (smHo (fun o => .int (ps o.1 o.2.1)) c1 c2 s) := smHo_K hI hT
  have mp1 : MP h1 q2 A F := mp.fr fo1 (fun a y u => u y)
  generalize hS : smHo (fun o => .int (ps o.1 o.2.1)) c1 c2 s = S at z1 out1 kr ⊢
  refine V_istore (pc := 1835) X [(6, .int _), (5, .int _), (0, .ref _), (1, .ref _), (2, .ref _), (3, .ref _), (4, .ref _)] dL_law_1835 (by decide) rfl ?_
  refine V_aload_n (pc := 1837) X 4 dL_law_1837 rfl ?_
  refine V_aload_n (pc := 1838) X 2 dL_law_1838 rfl ?_
  refine V_iload (pc := 1839) X 1 dL_law_1839 rfl ?_
  refine V_iconst (pc := 1841) (v := 1) X dL_law_1841 (by decide) ?_
  refine V_iadd (pc := 1842) X dL_law_1842 ?_
  rw [nI_1]
  refine V_sld (pc := 1843) X hX hbl hbA (vp_in_nI (show i + 1 < L by omega) (by omega)) dL_law_1843 ?_
  rw [← hc1]
  refine V_aload_n (pc := 1844) X 2 dL_law_1844 rfl ?_
  refine V_iload (pc := 1845) X 1 dL_law_1845 rfl ?_
  refine V_iconst (pc := 1847) (v := 2) X dL_law_1847 (by decide) ?_
  refine V_iadd (pc := 1848) X dL_law_1848 ?_
  rw [nI_2]
  refine V_sld (pc := 1849) X hX hbl hbA (vp_in_nI (show i + 2 < L by omega) (by omega)) dL_law_1849 ?_
  rw [← hc2]
  refine V_callV (pc := 1850) X clk9 (by decide) mp1.k _ (n_historyPosition mp1 rm hI hT hC) cw_L_225 (hRm _ _ (by decide) (by decide)) rfl (Nat.le_of_ble_eq_true rfl) rfl (by omega) dL_law_1850 (fun _ _ z => z.elim) ?_
  rintro v2 h2 nk
  rw [hS] at nk
  obtain ⟨⟨F2, mp2, fm2, rm2, t2⟩, u, rfl, hu⟩ := nk
  have ls2 : LSt h2 q q2 o1 o2 A S.2.2 := LSt.next z1 fo1 fm2 mp2 rm2 kr.1 kr.2.1 ko1 oo1 ko2 oo2
  simp only [Option.toList_some, List.cons_append, List.nil_append]
  refine V_istore (pc := 1853) X [(7, .int _), (6, .int _), (5, .int _), (0, .ref _), (1, .ref _), (2, .ref _), (3, .ref _), (4, .ref _)] dL_law_1853 (by decide) rfl ?_
  refine V_aload_n (pc := 1855) X 5 dL_law_1855 rfl ?_
  refine V_callV (pc := 1856) X clk9 (by decide) mp2.k _ (m_thrown mp2) cw_L_129 (hRm _ _ (by decide) (by decide)) rfl (Nat.le_of_ble_eq_true rfl) rfl (by omega) dL_law_1856 (fun _ _ z => z.elim) ?_
  rintro v3 h3 ⟨rfl, e3⟩
  rw [e3, t2]
  simp only [Option.toList_some, List.cons_append, List.nil_append]
  refine V_iload (pc := 1859) X 1 dL_law_1859 rfl ?_
  refine V_icmp_eq (pc := 1861) X 1866 dL_law_1861 (by decide) (fun c1861 => ?_) (fun c1861 => ?_)
  · refine V_iload (pc := 1866) X 1 dL_law_1866 rfl ?_
    refine V_if_ne (pc := 1868) X 1883 dL_law_1868 (by decide) (fun c1868 => ?_) (fun c1868 => ?_)
    · refine V_goto (pc := 1883) X 2123 dL_law_1883 (by decide) ?_
      refine V.sub [2, 3, 4, 5, 6, 7] rfl (V.less (b' := 335 * (L - (i + 4)) + Ph S.2.2) (by have := kr.2.2.1; omega) (fin _ _ ls2))
    · have hS0 : S.1 = 0 := (nI_eq (b := 0) (by have := kr.2.2.2; omega) (by decide)).mp c1868
      have ou : qF h2 1600 o1 = .long u.toInt64 := LSt.out fo1 fm2 ko1 (by decide) oo1 (by rw [out1 hS0, ← hu hS0]; rfl)
      refine V_aload_n (pc := 1871) X 6 dL_law_1871 rfl ?_
      refine V_iconst (pc := 1872) (v := 0) X dL_law_1872 (by decide) ?_
      refine V_lald (pc := 1873) X ls2.2.2.2.2.1 ou dL_law_1873 ?_
      refine V_iload (pc := 1874) X 0 dL_law_1874 rfl ?_
      refine V_i2l (pc := 1876) X dL_law_1876 ?_
      refine V_lcmp (pc := 1877) X dL_law_1877 ?_
      refine V_if_eq (pc := 1878) X 1883 dL_law_1878 (by decide) (fun c1878 => ?_) (fun c1878 => ?_)
      · refine V_goto (pc := 1883) X 2123 dL_law_1883 (by decide) ?_
        refine V.sub [2, 3, 4, 5, 6, 7] rfl (V.less (b' := 335 * (L - (i + 4)) + Ph S.2.2) (by have := kr.2.2.1; omega) (fin _ _ ls2))
      · exact absurd (lg_cmp_self _) c1878
  · exact absurd rfl c1861
theorem cs_agree {E : EV} {Γ : VG} {b0 L : Nat} {xs : Nat → Int32} (lw : LW E Γ b0 L xs) {h : AH} {q q2 o1 o2 i : Nat} {A : Nat → Nat} {s : SQ} (hi : i + 4 ≤ L) (ls : LSt h q q2 o1 o2 A s) (fin : ∀ (h2 : AH) (s2 : SQ), LSt h2 q q2 o1 o2 A s2 → V E Γ (335 * (L - (i + 4)) + Ph s2) h2 2123 [(5, .int (nI i)), (0, .ref b0), (1, .ref q), (2, .ref q2), (3, .ref o1), (4, .ref o2)] []) : V E Γ (335 * (L - i) + Ph s) h 1886 [(5, .int (nI i)), (0, .ref b0), (1, .ref q), (2, .ref q2), (3, .ref o1), (4, .ref o2)] [] := by
  obtain ⟨X, nx, hX, hbl, hbA, hRm, hL, -⟩ := lw
  obtain ⟨⟨G, z⟩, ⟨F, mp, rm⟩, hI, hT, ko1, oo1, ko2, oo2⟩ := ls
  have hC := z.codes
  have w := hI.ws
  obtain ⟨c1, hc1⟩ : ∃ c, c = xs (nI (i + 1)).toNatClampNeg := ⟨_, rfl⟩
  obtain ⟨c2, hc2⟩ : ∃ c, c = xs (nI (i + 2)).toNatClampNeg := ⟨_, rfl⟩
  obtain ⟨c3, hc3⟩ : ∃ c, c = xs (nI (i + 3)).toNatClampNeg := ⟨_, rfl⟩
  obtain ⟨d2, hd2⟩ : ∃ d, d = (c2.toUInt32 % 65536).toInt32 := ⟨_, rfl⟩
  obtain ⟨d3, hd3⟩ : ∃ d, d = (c3.toUInt32 % 65536).toInt32 := ⟨_, rfl⟩
  refine V_aload_n (pc := 1886) X 2 dL_law_1886 rfl ?_
  refine V_callV (pc := 1887) X clk8 (by decide) z.k _ (x_agree z w) cw_L_226 (hRm _ _ (by decide) (by decide)) rfl (Nat.le_of_ble_eq_true rfl) rfl (by omega) dL_law_1887 (fun _ _ z => z.elim) ?_
  rintro v1 h1 ⟨rfl, e1⟩
  have mp1 : MP h1 q2 A F := by rw [e1]; exact mp
  simp only [Option.toList_some, List.cons_append, List.nil_append]
  refine V_aload_n (pc := 1890) X 3 dL_law_1890 rfl ?_
  refine V_callV (pc := 1891) X clk9 (by decide) mp1.k _ (y_agree mp1 rm w hI.hH (fun y hy => (hC y hy).1)) cw_L_230 (hRm _ _ (by decide) (by decide)) rfl (Nat.le_of_ble_eq_true rfl) rfl (by omega) dL_law_1891 (fun _ _ z => z.elim) ?_
  rintro v2 h2 ⟨rfl, F2, mp2, fm2, rm2, t2⟩
  have ls2 : LSt h2 q q2 o1 o2 A s := LSt.next (h := h) (h1 := h1) (G1 := G) (by rw [e1]; exact z) (by rw [e1]; exact FO.refl h) fm2 mp2 rm2 hI hT ko1 oo1 ko2 oo2
  simp only [Option.toList_some, List.cons_append, List.nil_append]
  refine V_icmp_eq (pc := 1894) X 2123 dL_law_1894 (by decide) (fun c1894 => ?_) (fun c1894 => ?_)
  · exact V.less (b' := 335 * (L - (i + 4)) + Ph s) (by omega) (fin _ _ ls2)
  · exact absurd rfl c1894
theorem cs_distance {E : EV} {Γ : VG} {b0 L : Nat} {xs : Nat → Int32} (lw : LW E Γ b0 L xs) {h : AH} {q q2 o1 o2 i : Nat} {A : Nat → Nat} {s : SQ} (hi : i + 4 ≤ L) (ls : LSt h q q2 o1 o2 A s) (fin : ∀ (h2 : AH) (s2 : SQ), LSt h2 q q2 o1 o2 A s2 → V E Γ (335 * (L - (i + 4)) + Ph s2) h2 2123 [(5, .int (nI i)), (0, .ref b0), (1, .ref q), (2, .ref q2), (3, .ref o1), (4, .ref o2)] []) : V E Γ (335 * (L - i) + Ph s) h 1899 [(5, .int (nI i)), (0, .ref b0), (1, .ref q), (2, .ref q2), (3, .ref o1), (4, .ref o2)] [] := by
  obtain ⟨X, nx, hX, hbl, hbA, hRm, hL, -⟩ := lw
  obtain ⟨⟨G, z⟩, ⟨F, mp, rm⟩, hI, hT, ko1, oo1, ko2, oo2⟩ := ls
  have hC := z.codes
  have w := hI.ws
  obtain ⟨c1, hc1⟩ : ∃ c, c = xs (nI (i + 1)).toNatClampNeg := ⟨_, rfl⟩
  obtain ⟨c2, hc2⟩ : ∃ c, c = xs (nI (i + 2)).toNatClampNeg := ⟨_, rfl⟩
  obtain ⟨c3, hc3⟩ : ∃ c, c = xs (nI (i + 3)).toNatClampNeg := ⟨_, rfl⟩
  obtain ⟨d2, hd2⟩ : ∃ d, d = (c2.toUInt32 % 65536).toInt32 := ⟨_, rfl⟩
  obtain ⟨d3, hd3⟩ : ∃ d, d = (c3.toUInt32 % 65536).toInt32 := ⟨_, rfl⟩
  refine V_aload_n (pc := 1899) X 2 dL_law_1899 rfl ?_
  refine V_callV (pc := 1900) X clk8 (by decide) z.k _ (x_distance z w) cw_L_231 (hRm _ _ (by decide) (by decide)) rfl (Nat.le_of_ble_eq_true rfl) rfl (by omega) dL_law_1900 (fun _ _ z => z.elim) ?_
  rintro v1 h1 ⟨rfl, z1, fc1⟩
  have mp1 : MP h1 q2 A F := mp.fr fc1 (fun a y u => u (Or.inl y))
  simp only [Option.toList_some, List.cons_append, List.nil_append]
  refine V_aload_n (pc := 1903) X 3 dL_law_1903 rfl ?_
  refine V_callV (pc := 1904) X clk9 (by decide) mp1.k _ (y_distance mp1 rm w hI.hH (fun y hy => (hC y hy).1)) cw_L_234 (hRm _ _ (by decide) (by decide)) rfl (Nat.le_of_ble_eq_true rfl) rfl (by omega) dL_law_1904 (fun _ _ z => z.elim) ?_
  rintro v2 h2 ⟨rfl, F2, mp2, fm2, rm2, t2⟩
  have ls2 : LSt h2 q q2 o1 o2 A s := LSt.next (h := h) (h1 := h1) (G1 := G) z1 fc1.fo fm2 mp2 rm2 hI hT ko1 oo1 ko2 oo2
  simp only [Option.toList_some, List.cons_append, List.nil_append]
  refine V_icmp_eq (pc := 1907) X 2123 dL_law_1907 (by decide) (fun c1907 => ?_) (fun c1907 => ?_)
  · exact V.less (b' := 335 * (L - (i + 4)) + Ph s) (by omega) (fin _ _ ls2)
  · exact absurd rfl c1907
theorem cs_distanceByWays {E : EV} {Γ : VG} {b0 L : Nat} {xs : Nat → Int32} (lw : LW E Γ b0 L xs) {h : AH} {q q2 o1 o2 i : Nat} {A : Nat → Nat} {s : SQ} (hi : i + 4 ≤ L) (ls : LSt h q q2 o1 o2 A s) (fin : ∀ (h2 : AH) (s2 : SQ), LSt h2 q q2 o1 o2 A s2 → V E Γ (335 * (L - (i + 4)) + Ph s2) h2 2123 [(5, .int (nI i)), (0, .ref b0), (1, .ref q), (2, .ref q2), (3, .ref o1), (4, .ref o2)] []) : V E Γ (335 * (L - i) + Ph s) h 1912 [(5, .int (nI i)), (0, .ref b0), (1, .ref q), (2, .ref q2), (3, .ref o1), (4, .ref o2)] [] := by
  obtain ⟨X, nx, hX, hbl, hbA, hRm, hL, -⟩ := lw
  obtain ⟨⟨G, z⟩, ⟨F, mp, rm⟩, hI, hT, ko1, oo1, ko2, oo2⟩ := ls
  have hC := z.codes
  have w := hI.ws
  obtain ⟨c1, hc1⟩ : ∃ c, c = xs (nI (i + 1)).toNatClampNeg := ⟨_, rfl⟩
  obtain ⟨c2, hc2⟩ : ∃ c, c = xs (nI (i + 2)).toNatClampNeg := ⟨_, rfl⟩
  obtain ⟨c3, hc3⟩ : ∃ c, c = xs (nI (i + 3)).toNatClampNeg := ⟨_, rfl⟩
  obtain ⟨d2, hd2⟩ : ∃ d, d = (c2.toUInt32 % 65536).toInt32 := ⟨_, rfl⟩
  obtain ⟨d3, hd3⟩ : ∃ d, d = (c3.toUInt32 % 65536).toInt32 := ⟨_, rfl⟩
  refine V_aload_n (pc := 1912) X 2 dL_law_1912 rfl ?_
  refine V_callV (pc := 1913) X clk8 (by decide) z.k _ (x_distanceByWays z w) cw_L_235 (hRm _ _ (by decide) (by decide)) rfl (Nat.le_of_ble_eq_true rfl) rfl (by omega) dL_law_1913 (fun _ _ z => z.elim) ?_
  rintro v1 h1 ⟨rfl, z1, fc1⟩
  have mp1 : MP h1 q2 A F := mp.fr fc1 (fun a y u => u (Or.inl y))
  simp only [Option.toList_some, List.cons_append, List.nil_append]
  refine V_aload_n (pc := 1916) X 3 dL_law_1916 rfl ?_
  refine V_callV (pc := 1917) X clk9 (by decide) mp1.k _ (y_distanceByWays mp1 rm w hI.hH (fun y hy => (hC y hy).1)) cw_L_238 (hRm _ _ (by decide) (by decide)) rfl (Nat.le_of_ble_eq_true rfl) rfl (by omega) dL_law_1917 (fun _ _ z => z.elim) ?_
  rintro v2 h2 ⟨rfl, F2, mp2, fm2, rm2, t2⟩
  have ls2 : LSt h2 q q2 o1 o2 A s := LSt.next (h := h) (h1 := h1) (G1 := G) z1 fc1.fo fm2 mp2 rm2 hI hT ko1 oo1 ko2 oo2
  simp only [Option.toList_some, List.cons_append, List.nil_append]
  refine V_icmp_eq (pc := 1920) X 2123 dL_law_1920 (by decide) (fun c1920 => ?_) (fun c1920 => ?_)
  · exact V.less (b' := 335 * (L - (i + 4)) + Ph s) (by omega) (fin _ _ ls2)
  · exact absurd rfl c1920
theorem cs_ownShare {E : EV} {Γ : VG} {b0 L : Nat} {xs : Nat → Int32} (lw : LW E Γ b0 L xs) {h : AH} {q q2 o1 o2 i : Nat} {A : Nat → Nat} {s : SQ} (hi : i + 4 ≤ L) (ls : LSt h q q2 o1 o2 A s) (fin : ∀ (h2 : AH) (s2 : SQ), LSt h2 q q2 o1 o2 A s2 → V E Γ (335 * (L - (i + 4)) + Ph s2) h2 2123 [(5, .int (nI i)), (0, .ref b0), (1, .ref q), (2, .ref q2), (3, .ref o1), (4, .ref o2)] []) : V E Γ (335 * (L - i) + Ph s) h 1925 [(5, .int (nI i)), (0, .ref b0), (1, .ref q), (2, .ref q2), (3, .ref o1), (4, .ref o2)] [] := by
  obtain ⟨X, nx, hX, hbl, hbA, hRm, hL, -⟩ := lw
  obtain ⟨⟨G, z⟩, ⟨F, mp, rm⟩, hI, hT, ko1, oo1, ko2, oo2⟩ := ls
  have hC := z.codes
  have w := hI.ws
  obtain ⟨c1, hc1⟩ : ∃ c, c = xs (nI (i + 1)).toNatClampNeg := ⟨_, rfl⟩
  obtain ⟨c2, hc2⟩ : ∃ c, c = xs (nI (i + 2)).toNatClampNeg := ⟨_, rfl⟩
  obtain ⟨c3, hc3⟩ : ∃ c, c = xs (nI (i + 3)).toNatClampNeg := ⟨_, rfl⟩
  obtain ⟨d2, hd2⟩ : ∃ d, d = (c2.toUInt32 % 65536).toInt32 := ⟨_, rfl⟩
  obtain ⟨d3, hd3⟩ : ∃ d, d = (c3.toUInt32 % 65536).toInt32 := ⟨_, rfl⟩
  refine V_aload_n (pc := 1925) X 2 dL_law_1925 rfl ?_
  refine V_aload_n (pc := 1926) X 1 dL_law_1926 rfl ?_
  refine V_iload (pc := 1927) X 0 dL_law_1927 rfl ?_
  refine V_iconst (pc := 1929) (v := 1) X dL_law_1929 (by decide) ?_
  refine V_iadd (pc := 1930) X dL_law_1930 ?_
  rw [nI_1]
  refine V_sld (pc := 1931) X hX hbl hbA (vp_in_nI (show i + 1 < L by omega) (by omega)) dL_law_1931 ?_
  rw [← hc1]
  refine V_aload (pc := 1932) X 5 dL_law_1932 rfl ?_
  refine V_callW (pc := 1934) X nx _ (k_ownShare (a1 := c1) z hI ko2 oo2) cw_L_239 (hRm _ _ (by decide) (by decide)) rfl (Nat.le_of_ble_eq_true rfl) rfl (by omega) dL_law_1934 ?_
  rintro v1 h1 ⟨rfl, ⟨G1, z1⟩, fo1, out1⟩
  simp only [Option.toList_some, List.cons_append, List.nil_append]
  have kr : KR s (smShare c1 s) := smShare_K hI hT
  have mp1 : MP h1 q2 A F := mp.fr fo1 (fun a y u => u y)
  have nn := @smShare_nn s w c1
  generalize hS : smShare c1 s = S at z1 out1 kr nn ⊢
  refine V_istore (pc := 1937) X [(6, .int _), (5, .int _), (0, .ref _), (1, .ref _), (2, .ref _), (3, .ref _), (4, .ref _)] dL_law_1937 (by decide) rfl ?_
  refine V_aload_n (pc := 1939) X 4 dL_law_1939 rfl ?_
  refine V_aload_n (pc := 1940) X 2 dL_law_1940 rfl ?_
  refine V_iload (pc := 1941) X 1 dL_law_1941 rfl ?_
  refine V_iconst (pc := 1943) (v := 1) X dL_law_1943 (by decide) ?_
  refine V_iadd (pc := 1944) X dL_law_1944 ?_
  rw [nI_1]
  refine V_sld (pc := 1945) X hX hbl hbA (vp_in_nI (show i + 1 < L by omega) (by omega)) dL_law_1945 ?_
  rw [← hc1]
  refine V_callV (pc := 1946) X clk9 (by decide) mp1.k _ (n_ownShare mp1 rm hI hT hC) cw_L_242 (hRm _ _ (by decide) (by decide)) rfl (Nat.le_of_ble_eq_true rfl) rfl (by omega) dL_law_1946 (fun _ _ z => z.elim) ?_
  rintro v2 h2 nk
  rw [hS] at nk
  obtain ⟨⟨F2, mp2, fm2, rm2, t2⟩, u, rfl, hu⟩ := nk
  have ls2 : LSt h2 q q2 o1 o2 A S.2.2 := LSt.next z1 fo1 fm2 mp2 rm2 kr.1 kr.2.1 ko1 oo1 ko2 oo2
  simp only [Option.toList_some, List.cons_append, List.nil_append]
  refine V_fstore (pc := 1949) X [(7, .float _), (6, .int _), (5, .int _), (0, .ref _), (1, .ref _), (2, .ref _), (3, .ref _), (4, .ref _)] dL_law_1949 (by decide) rfl ?_
  refine V_aload_n (pc := 1951) X 5 dL_law_1951 rfl ?_
  refine V_callV (pc := 1952) X clk9 (by decide) mp2.k _ (m_thrown mp2) cw_L_129 (hRm _ _ (by decide) (by decide)) rfl (Nat.le_of_ble_eq_true rfl) rfl (by omega) dL_law_1952 (fun _ _ z => z.elim) ?_
  rintro v3 h3 ⟨rfl, e3⟩
  rw [e3, t2]
  simp only [Option.toList_some, List.cons_append, List.nil_append]
  refine V_iload (pc := 1955) X 1 dL_law_1955 rfl ?_
  refine V_icmp_eq (pc := 1957) X 1962 dL_law_1957 (by decide) (fun c1957 => ?_) (fun c1957 => ?_)
  · refine V_iload (pc := 1962) X 1 dL_law_1962 rfl ?_
    refine V_if_ne (pc := 1964) X 2000 dL_law_1964 (by decide) (fun c1964 => ?_) (fun c1964 => ?_)
    · refine V_goto (pc := 2000) X 2123 dL_law_2000 (by decide) ?_
      refine V.sub [2, 3, 4, 5, 6, 7] rfl (V.less (b' := 335 * (L - (i + 4)) + Ph S.2.2) (by have := kr.2.2.1; omega) (fin _ _ ls2))
    · have hS0 : S.1 = 0 := (nI_eq (b := 0) (by have := kr.2.2.2; omega) (by decide)).mp c1964
      have ou : qF h2 1700 o2 = .double (FP.f2d u) := LSt.out fo1 fm2 ko2 (by decide) oo2 (by rw [out1 hS0, ← hu hS0]; rfl)
      have n64 := vf_f2d (nn hS0 (hu hS0))
      refine V_aload (pc := 1967) X 7 dL_law_1967 rfl ?_
      refine V_iconst (pc := 1969) (v := 0) X dL_law_1969 (by decide) ?_
      refine V_dald (pc := 1970) X ls2.2.2.2.2.2.2.1 ou dL_law_1970 ?_
      refine V_fload (pc := 1971) X 0 dL_law_1971 rfl ?_
      refine V_f2d (pc := 1973) X dL_law_1973 n64 ?_
      refine V_dcmp (pc := 1974) X dL_law_1974 ?_
      refine V_if_eq (pc := 1975) X 2000 dL_law_1975 (by decide) (fun c1975 => ?_) (fun c1975 => ?_)
      · refine V_goto (pc := 2000) X 2123 dL_law_2000 (by decide) ?_
        refine V.sub [2, 3, 4, 5, 6, 7] rfl (V.less (b' := 335 * (L - (i + 4)) + Ph S.2.2) (by have := kr.2.2.1; omega) (fin _ _ ls2))
      · exact absurd (cmp_same n64) c1975
  · exact absurd rfl c1957
theorem cs_meanRun {E : EV} {Γ : VG} {b0 L : Nat} {xs : Nat → Int32} (lw : LW E Γ b0 L xs) {h : AH} {q q2 o1 o2 i : Nat} {A : Nat → Nat} {s : SQ} (hi : i + 4 ≤ L) (ls : LSt h q q2 o1 o2 A s) (fin : ∀ (h2 : AH) (s2 : SQ), LSt h2 q q2 o1 o2 A s2 → V E Γ (335 * (L - (i + 4)) + Ph s2) h2 2123 [(5, .int (nI i)), (0, .ref b0), (1, .ref q), (2, .ref q2), (3, .ref o1), (4, .ref o2)] []) : V E Γ (335 * (L - i) + Ph s) h 2003 [(5, .int (nI i)), (0, .ref b0), (1, .ref q), (2, .ref q2), (3, .ref o1), (4, .ref o2)] [] := by
  obtain ⟨X, nx, hX, hbl, hbA, hRm, hL, -⟩ := lw
  obtain ⟨⟨G, z⟩, ⟨F, mp, rm⟩, hI, hT, ko1, oo1, ko2, oo2⟩ := ls
  have hC := z.codes
  have w := hI.ws
  obtain ⟨c1, hc1⟩ : ∃ c, c = xs (nI (i + 1)).toNatClampNeg := ⟨_, rfl⟩
  obtain ⟨c2, hc2⟩ : ∃ c, c = xs (nI (i + 2)).toNatClampNeg := ⟨_, rfl⟩
  obtain ⟨c3, hc3⟩ : ∃ c, c = xs (nI (i + 3)).toNatClampNeg := ⟨_, rfl⟩
  obtain ⟨d2, hd2⟩ : ∃ d, d = (c2.toUInt32 % 65536).toInt32 := ⟨_, rfl⟩
  obtain ⟨d3, hd3⟩ : ∃ d, d = (c3.toUInt32 % 65536).toInt32 := ⟨_, rfl⟩
  refine V_aload_n (pc := 2003) X 2 dL_law_2003 rfl ?_
  refine V_aload (pc := 2004) X 5 dL_law_2004 rfl ?_
  refine V_callW (pc := 2006) X nx _ (k_meanRun z hI ko2 oo2) cw_L_243 (hRm _ _ (by decide) (by decide)) rfl (Nat.le_of_ble_eq_true rfl) rfl (by omega) dL_law_2006 ?_
  rintro v1 h1 ⟨rfl, ⟨G1, z1⟩, fo1, out1⟩
  simp only [Option.toList_some, List.cons_append, List.nil_append]
  have kr : KR s (smMean s) := smMean_K hI hT
  have mp1 : MP h1 q2 A F := mp.fr fo1 (fun a y u => u y)
  have nn := @smMean_nn s hI
  generalize hS : smMean s = S at z1 out1 kr nn ⊢
  refine V_istore (pc := 2009) X [(6, .int _), (5, .int _), (0, .ref _), (1, .ref _), (2, .ref _), (3, .ref _), (4, .ref _)] dL_law_2009 (by decide) rfl ?_
  refine V_aload_n (pc := 2011) X 4 dL_law_2011 rfl ?_
  refine V_callV (pc := 2012) X clk9 (by decide) mp1.k _ (n_meanRun mp1 rm hI hT hC) cw_L_246 (hRm _ _ (by decide) (by decide)) rfl (Nat.le_of_ble_eq_true rfl) rfl (by omega) dL_law_2012 (fun _ _ z => z.elim) ?_
  rintro v2 h2 nk
  rw [hS] at nk
  obtain ⟨⟨F2, mp2, fm2, rm2, t2⟩, u, rfl, hu⟩ := nk
  have ls2 : LSt h2 q q2 o1 o2 A S.2.2 := LSt.next z1 fo1 fm2 mp2 rm2 kr.1 kr.2.1 ko1 oo1 ko2 oo2
  simp only [Option.toList_some, List.cons_append, List.nil_append]
  refine V_dstore (pc := 2015) X [(7, .double _), (6, .int _), (5, .int _), (0, .ref _), (1, .ref _), (2, .ref _), (3, .ref _), (4, .ref _)] dL_law_2015 (by decide) rfl ?_
  refine V_aload_n (pc := 2017) X 5 dL_law_2017 rfl ?_
  refine V_callV (pc := 2018) X clk9 (by decide) mp2.k _ (m_thrown mp2) cw_L_129 (hRm _ _ (by decide) (by decide)) rfl (Nat.le_of_ble_eq_true rfl) rfl (by omega) dL_law_2018 (fun _ _ z => z.elim) ?_
  rintro v3 h3 ⟨rfl, e3⟩
  rw [e3, t2]
  simp only [Option.toList_some, List.cons_append, List.nil_append]
  refine V_iload (pc := 2021) X 1 dL_law_2021 rfl ?_
  refine V_icmp_eq (pc := 2023) X 2028 dL_law_2023 (by decide) (fun c2023 => ?_) (fun c2023 => ?_)
  · refine V_iload (pc := 2028) X 1 dL_law_2028 rfl ?_
    refine V_if_ne (pc := 2030) X 2065 dL_law_2030 (by decide) (fun c2030 => ?_) (fun c2030 => ?_)
    · refine V_goto (pc := 2065) X 2123 dL_law_2065 (by decide) ?_
      refine V.sub [2, 3, 4, 5, 6, 7] rfl (V.less (b' := 335 * (L - (i + 4)) + Ph S.2.2) (by have := kr.2.2.1; omega) (fin _ _ ls2))
    · have hS0 : S.1 = 0 := (nI_eq (b := 0) (by have := kr.2.2.2; omega) (by decide)).mp c2030
      have ou : qF h2 1700 o2 = .double u := LSt.out fo1 fm2 ko2 (by decide) oo2 (by rw [out1 hS0, ← hu hS0]; rfl)
      have n64 := nn hS0 (hu hS0)
      refine V_aload (pc := 2033) X 7 dL_law_2033 rfl ?_
      refine V_iconst (pc := 2035) (v := 0) X dL_law_2035 (by decide) ?_
      refine V_dald (pc := 2036) X ls2.2.2.2.2.2.2.1 ou dL_law_2036 ?_
      refine V_dload (pc := 2037) X 0 dL_law_2037 rfl ?_
      refine V_dcmp (pc := 2039) X dL_law_2039 ?_
      refine V_if_eq (pc := 2040) X 2065 dL_law_2040 (by decide) (fun c2040 => ?_) (fun c2040 => ?_)
      · refine V_goto (pc := 2065) X 2123 dL_law_2065 (by decide) ?_
        refine V.sub [2, 3, 4, 5, 6, 7] rfl (V.less (b' := 335 * (L - (i + 4)) + Ph S.2.2) (by have := kr.2.2.1; omega) (fin _ _ ls2))
      · exact absurd (cmp_same n64) c2040
  · exact absurd rfl c2023
theorem cs_textNumber {E : EV} {Γ : VG} {b0 L : Nat} {xs : Nat → Int32} (lw : LW E Γ b0 L xs) {h : AH} {q q2 o1 o2 i : Nat} {A : Nat → Nat} {s : SQ} (hi : i + 4 ≤ L) (ls : LSt h q q2 o1 o2 A s) (fin : ∀ (h2 : AH) (s2 : SQ), LSt h2 q q2 o1 o2 A s2 → V E Γ (335 * (L - (i + 4)) + Ph s2) h2 2123 [(5, .int (nI i)), (0, .ref b0), (1, .ref q), (2, .ref q2), (3, .ref o1), (4, .ref o2)] []) : V E Γ (335 * (L - i) + Ph s) h 2068 [(5, .int (nI i)), (0, .ref b0), (1, .ref q), (2, .ref q2), (3, .ref o1), (4, .ref o2)] [] := by
  obtain ⟨X, nx, hX, hbl, hbA, hRm, hL, -⟩ := lw
  obtain ⟨⟨G, z⟩, ⟨F, mp, rm⟩, hI, hT, ko1, oo1, ko2, oo2⟩ := ls
  have hC := z.codes
  have w := hI.ws
  obtain ⟨c1, hc1⟩ : ∃ c, c = xs (nI (i + 1)).toNatClampNeg := ⟨_, rfl⟩
  obtain ⟨c2, hc2⟩ : ∃ c, c = xs (nI (i + 2)).toNatClampNeg := ⟨_, rfl⟩
  obtain ⟨c3, hc3⟩ : ∃ c, c = xs (nI (i + 3)).toNatClampNeg := ⟨_, rfl⟩
  obtain ⟨d2, hd2⟩ : ∃ d, d = (c2.toUInt32 % 65536).toInt32 := ⟨_, rfl⟩
  obtain ⟨d3, hd3⟩ : ∃ d, d = (c3.toUInt32 % 65536).toInt32 := ⟨_, rfl⟩
  refine V_aload_n (pc := 2068) X 2 dL_law_2068 rfl ?_
  refine V_aload_n (pc := 2069) X 1 dL_law_2069 rfl ?_
  refine V_iload (pc := 2070) X 0 dL_law_2070 rfl ?_
  refine V_iconst (pc := 2072) (v := 1) X dL_law_2072 (by decide) ?_
  refine V_iadd (pc := 2073) X dL_law_2073 ?_
  rw [nI_1]
  refine V_sld (pc := 2074) X hX hbl hbA (vp_in_nI (show i + 1 < L by omega) (by omega)) dL_law_2074 ?_
  rw [← hc1]
  refine V_aload_n (pc := 2075) X 4 dL_law_2075 rfl ?_
  refine V_callW (pc := 2076) X nx _ (k_textNumber (a1 := c1) z hI ko1 oo1) cw_L_247 (hRm _ _ (by decide) (by decide)) rfl (Nat.le_of_ble_eq_true rfl) rfl (by omega) dL_law_2076 ?_
  rintro v1 h1 ⟨rfl, ⟨G1, z1⟩, fo1, out1⟩
  simp only [Option.toList_some, List.cons_append, List.nil_append]
  have kr : KR s (smG (fun e => .long (num (zT s) (eX (zE s e)) 7)) c1 s) := smG_K hI hT
  have mp1 : MP h1 q2 A F := mp.fr fo1 (fun a y u => u y)
  generalize hS : smG (fun e => .long (num (zT s) (eX (zE s e)) 7)) c1 s = S at z1 out1 kr ⊢
  refine V_istore (pc := 2079) X [(6, .int _), (5, .int _), (0, .ref _), (1, .ref _), (2, .ref _), (3, .ref _), (4, .ref _)] dL_law_2079 (by decide) rfl ?_
  refine V_aload_n (pc := 2081) X 4 dL_law_2081 rfl ?_
  refine V_aload_n (pc := 2082) X 2 dL_law_2082 rfl ?_
  refine V_iload (pc := 2083) X 1 dL_law_2083 rfl ?_
  refine V_iconst (pc := 2085) (v := 1) X dL_law_2085 (by decide) ?_
  refine V_iadd (pc := 2086) X dL_law_2086 ?_
  rw [nI_1]
  refine V_sld (pc := 2087) X hX hbl hbA (vp_in_nI (show i + 1 < L by omega) (by omega)) dL_law_2087 ?_
  rw [← hc1]
  refine V_callV (pc := 2088) X clk9 (by decide) mp1.k _ (n_textNumber mp1 rm hI hT hC) cw_L_249 (hRm _ _ (by decide) (by decide)) rfl (Nat.le_of_ble_eq_true rfl) rfl (by omega) dL_law_2088 (fun _ _ z => z.elim) ?_
  rintro v2 h2 nk
  rw [hS] at nk
  obtain ⟨⟨F2, mp2, fm2, rm2, t2⟩, u, rfl, hu⟩ := nk
  have ls2 : LSt h2 q q2 o1 o2 A S.2.2 := LSt.next z1 fo1 fm2 mp2 rm2 kr.1 kr.2.1 ko1 oo1 ko2 oo2
  simp only [Option.toList_some, List.cons_append, List.nil_append]
  refine V_lstore (pc := 2091) X [(7, .long _), (6, .int _), (5, .int _), (0, .ref _), (1, .ref _), (2, .ref _), (3, .ref _), (4, .ref _)] dL_law_2091 (by decide) rfl ?_
  refine V_aload_n (pc := 2093) X 5 dL_law_2093 rfl ?_
  refine V_callV (pc := 2094) X clk9 (by decide) mp2.k _ (m_thrown mp2) cw_L_129 (hRm _ _ (by decide) (by decide)) rfl (Nat.le_of_ble_eq_true rfl) rfl (by omega) dL_law_2094 (fun _ _ z => z.elim) ?_
  rintro v3 h3 ⟨rfl, e3⟩
  rw [e3, t2]
  simp only [Option.toList_some, List.cons_append, List.nil_append]
  refine V_iload (pc := 2097) X 1 dL_law_2097 rfl ?_
  refine V_icmp_eq (pc := 2099) X 2104 dL_law_2099 (by decide) (fun c2099 => ?_) (fun c2099 => ?_)
  · refine V_iload (pc := 2104) X 1 dL_law_2104 rfl ?_
    refine V_if_ne (pc := 2106) X 2120 dL_law_2106 (by decide) (fun c2106 => ?_) (fun c2106 => ?_)
    · refine V_goto (pc := 2120) X 2123 dL_law_2120 (by decide) ?_
      refine V.sub [2, 3, 4, 5, 6, 7] rfl (V.less (b' := 335 * (L - (i + 4)) + Ph S.2.2) (by have := kr.2.2.1; omega) (fin _ _ ls2))
    · have hS0 : S.1 = 0 := (nI_eq (b := 0) (by have := kr.2.2.2; omega) (by decide)).mp c2106
      have ou : qF h2 1600 o1 = .long u := LSt.out fo1 fm2 ko1 (by decide) oo1 (by rw [out1 hS0, ← hu hS0]; rfl)
      refine V_aload_n (pc := 2109) X 6 dL_law_2109 rfl ?_
      refine V_iconst (pc := 2110) (v := 0) X dL_law_2110 (by decide) ?_
      refine V_lald (pc := 2111) X ls2.2.2.2.2.1 ou dL_law_2111 ?_
      refine V_lload (pc := 2112) X 0 dL_law_2112 rfl ?_
      refine V_lcmp (pc := 2114) X dL_law_2114 ?_
      refine V_if_eq (pc := 2115) X 2120 dL_law_2115 (by decide) (fun c2115 => ?_) (fun c2115 => ?_)
      · refine V_goto (pc := 2120) X 2123 dL_law_2120 (by decide) ?_
        refine V.sub [2, 3, 4, 5, 6, 7] rfl (V.less (b' := 335 * (L - (i + 4)) + Ph S.2.2) (by have := kr.2.2.1; omega) (fin _ _ ls2))
      · exact absurd (lg_cmp_self _) c2115
  · exact absurd rfl c2099
