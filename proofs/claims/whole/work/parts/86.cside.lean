/-! THE CLASS'S SIDE -/
/-- what is not the model's own may have changed -/
def FO (h h1 : AH) : Prop := Fr (fun a => ¬ own h a = .ref 10) h h1
theorem FC.fo {h h1 : AH} (F : FC h h1) : FO h h1 := F.mono (fun a _ y u => y (Or.inl u))
theorem FO.refl (h : AH) : FO h h := Fr.refl _ h
theorem FO.seq {h h1 h2 : AH} (F : FO h h1) (G : FO h1 h2) : FO h h2 := Fr.trans F G (fun _ _ y => y) (fun a k y u => y (Fr.O F k u))
/-- as a long; as a double -/
def lgv : Value → Value
  | .int u => .long u.toInt64
  | .long u => .long u
  | _ => .null
def lgd : Value → Value
  | .float u => .double (FP.f2d u)
  | .double u => .double u
  | _ => .null
def RK (f : Nat) (g : Value → Value) (h h1 : AH) (q o : Nat) (S : R3) (v : Option Value) : Prop := v = some (.int (nI S.1)) ∧ (∃ G, RC h1 q G S.2.2) ∧ FO h h1 ∧ (S.1 = 0 → qF h1 f o = g S.2.1)
theorem RK_ok {f : Nat} {g : Value → Value} {h h0 : AH} {q o kd : Nat} {G : GQ} {w u : Value} {s' : SQ} {S : R3} (e : S = (0, w, s')) (z : RC h0 q G s') (fc : FC h h0) (hf : f < 9999) (k : qK h o = kd) (hkd : kd ≠ 0) (ho : own h o = .ref 11) (hu : u = g w) : RK f g h (sF h0 f o u) q o S (some (.int (nI 0))) := by
  subst e hu
  have o0 : own h0 o = .ref 11 := fc.O (by rw [k]; exact hkd) ho
  have F : Fr (fun a => a = o) h0 (sF h0 f o (g w)) := Fr_sF (S := fun a => a = o) rfl hf
  refine ⟨rfl, ⟨G, z.fr (F.mono (fun a _ y => Or.inr (by rw [y]; exact o0)))⟩, fc.fo.seq (F.mono (fun a _ y u => by rw [y, o0] at u; exact ref_ne (a := 11) (b := 10) (by decide) u)), fun _ => by rw [qF_sF, if_pos ⟨rfl, rfl⟩]⟩
theorem RK_bad {f : Nat} {g : Value → Value} {h h1 : AH} {q o c : Nat} {G : GQ} {s : SQ} {S : R3} (e : S = (c, .null, s)) (hc : c ≠ 0) (z : RC h1 q G s) (fo : FO h h1) : RK f g h h1 q o S (some (.int (nI c))) := by
  subst e
  exact ⟨rfl, ⟨G, z⟩, fo, fun y => absurd y hc⟩
theorem CtW.mono {E : EV} {y : MethodName} {cc : ByteArray} {nL : Nat} {ret : Option FieldType} {hh : List (Nat × Nat × Nat × Nat)} {rk b : Nat} {args : List Value} {h : AH} {Ret Ret' : Option Value → AH → Prop} (M : CtW E y cc nL ret hh rk b args h Ret) (hr : ∀ v h', Ret v h' → Ret' v h') : CtW E y cc nL ret hh rk b args h Ret' := by
  intro l hl p e h1 h2 h3 s m a below h4 h5 h6 h7
  obtain ⟨n, o, g1, g2, g3, ⟨⟨v, h', f1, f2, f3⟩, f4⟩, f5⟩ := M l hl p e h1 h2 h3 s m a below h4 h5 h6 h7
  exact ⟨n, o, g1, g2, g3, ⟨⟨v, h', f1, hr v h' f2, f3⟩, f4⟩, f5⟩
theorem k_insert {E : EV} {h : AH} {q o : Nat} {G : GQ} {s : SQ} (z : RC h q G s) (hI : INV s) (ko : qK h o = 16) (ho : own h o = .ref 11) {a1 a2 a3 : Int32} : CtW E yL_insert cL_insert 6 (some .int) [(0, 12, 15, 13), (0, 12, 19, 15), (0, 12, 23, 17)] 13 1332 [.ref q, .int a1, .int a2, .int a3, .ref o] h (fun v h1 => RK 1600 lgv h h1 q o (smInsert a1 a2 a3 s) v) := by
  have w := hI.ws
  have hl : ∀ e, e ≤ 1 → (eX (zE s e)).length ≤ 200 := fun e he => (w.1 e he).1.1.1
  refine (l_insert z.k (x_insert z w) (fun v h1 y => ?_) (fun N h1 y => ?_)).mono (fun v h1 y => ?_)
  · rcases y with ⟨⟨e, i, c, he, rfl, rfl, rfl, hi, g1, g2, g3, g4, ev, la, z1⟩, fc⟩
    all_goals exact ⟨⟨_, ev⟩, Fr.K fc ko (by decide)⟩
  · rcases y with ⟨⟨n, y⟩ | ⟨e, he, rfl, ⟨n, y⟩ | ⟨n, y1, y2, y3⟩⟩, rfl⟩
    all_goals first | exact Or.inl n | exact Or.inr (Or.inl n) | exact Or.inr (Or.inr n)
  · obtain ⟨c9, rfl, ⟨rfl, u, h0, r, rfl⟩ | ⟨rfl, y⟩ | ⟨rfl, y⟩ | ⟨rfl, y⟩⟩ := y
    · rcases r with ⟨⟨e, i, c, he, rfl, rfl, rfl, hi, g1, g2, g3, g4, ev, la, z1⟩, fc⟩
      all_goals cases ev
      exact RK_ok (smInsert_0 he (hl e he) hi g1 g2 g3 g4) z1 fc (by decide) ko (by decide) ho rfl
    · rcases y with ⟨⟨n, y⟩ | ⟨e, he, rfl, ⟨n, y⟩ | ⟨n, y1, y2, y3⟩⟩, rfl⟩
      all_goals first | exact absurd n (by decide) | exact RK_bad (smE_n y) (by decide) z (FO.refl _) | exact RK_bad (smInsert_2 he y) (by decide) z (FO.refl _) | exact RK_bad (smInsert_3 he y1 y2 y3) (by decide) z (FO.refl _)
    · rcases y with ⟨⟨n, y⟩ | ⟨e, he, rfl, ⟨n, y⟩ | ⟨n, y1, y2, y3⟩⟩, rfl⟩
      all_goals first | exact absurd n (by decide) | exact RK_bad (smE_n y) (by decide) z (FO.refl _) | exact RK_bad (smInsert_2 he y) (by decide) z (FO.refl _) | exact RK_bad (smInsert_3 he y1 y2 y3) (by decide) z (FO.refl _)
    · rcases y with ⟨⟨n, y⟩ | ⟨e, he, rfl, ⟨n, y⟩ | ⟨n, y1, y2, y3⟩⟩, rfl⟩
      all_goals first | exact absurd n (by decide) | exact RK_bad (smE_n y) (by decide) z (FO.refl _) | exact RK_bad (smInsert_2 he y) (by decide) z (FO.refl _) | exact RK_bad (smInsert_3 he y1 y2 y3) (by decide) z (FO.refl _)
theorem k_delete {E : EV} {h : AH} {q o : Nat} {G : GQ} {s : SQ} (z : RC h q G s) (hI : INV s) (ko : qK h o = 16) (ho : own h o = .ref 11) {a1 a2 : Int32} : CtW E yL_delete cL_delete 5 (some .int) [(0, 10, 13, 13), (0, 10, 17, 15), (0, 10, 21, 17)] 13 1332 [.ref q, .int a1, .int a2, .ref o] h (fun v h1 => RK 1600 lgv h h1 q o (smDelete a1 a2 s) v) := by
  have w := hI.ws
  have hl : ∀ e, e ≤ 1 → (eX (zE s e)).length ≤ 200 := fun e he => (w.1 e he).1.1.1
  refine (l_delete z.k (x_delete z w) (fun v h1 y => ?_) (fun N h1 y => ?_)).mono (fun v h1 y => ?_)
  · rcases y with ⟨⟨e, i, a, he, rfl, rfl, hy, g4, ev, z1⟩, fc⟩
    all_goals exact ⟨⟨_, ev⟩, Fr.K fc ko (by decide)⟩
  · rcases y with ⟨⟨n, y⟩ | ⟨e, he, rfl, ⟨n, y⟩ | ⟨n, y2, y3⟩⟩, rfl⟩
    all_goals first | exact Or.inl n | exact Or.inr (Or.inl n) | exact Or.inr (Or.inr n)
  · obtain ⟨c9, rfl, ⟨rfl, u, h0, r, rfl⟩ | ⟨rfl, y⟩ | ⟨rfl, y⟩ | ⟨rfl, y⟩⟩ := y
    · rcases r with ⟨⟨e, i, a, he, rfl, rfl, hy, g4, ev, z1⟩, fc⟩
      all_goals cases ev
      exact RK_ok (smDelete_0 he (hl e he) hy g4) z1 fc (by decide) ko (by decide) ho rfl
    · rcases y with ⟨⟨n, y⟩ | ⟨e, he, rfl, ⟨n, y⟩ | ⟨n, y2, y3⟩⟩, rfl⟩
      all_goals first | exact absurd n (by decide) | exact RK_bad (smE_n y) (by decide) z (FO.refl _) | exact RK_bad (smDelete_2 he (hl e he) y) (by decide) z (FO.refl _) | exact RK_bad (smDelete_3 he (hl e he) y2 y3) (by decide) z (FO.refl _)
    · rcases y with ⟨⟨n, y⟩ | ⟨e, he, rfl, ⟨n, y⟩ | ⟨n, y2, y3⟩⟩, rfl⟩
      all_goals first | exact absurd n (by decide) | exact RK_bad (smE_n y) (by decide) z (FO.refl _) | exact RK_bad (smDelete_2 he (hl e he) y) (by decide) z (FO.refl _) | exact RK_bad (smDelete_3 he (hl e he) y2 y3) (by decide) z (FO.refl _)
    · rcases y with ⟨⟨n, y⟩ | ⟨e, he, rfl, ⟨n, y⟩ | ⟨n, y2, y3⟩⟩, rfl⟩
      all_goals first | exact absurd n (by decide) | exact RK_bad (smE_n y) (by decide) z (FO.refl _) | exact RK_bad (smDelete_2 he (hl e he) y) (by decide) z (FO.refl _) | exact RK_bad (smDelete_3 he (hl e he) y2 y3) (by decide) z (FO.refl _)
theorem k_type {E : EV} {h : AH} {q o : Nat} {G : GQ} {s : SQ} (z : RC h q G s) (hI : INV s) (ko : qK h o = 16) (ho : own h o = .ref 11) {a1 a2 : Int32} : CtW E yL_type cL_type 5 (some .int) [(0, 10, 13, 13), (0, 10, 17, 15), (0, 10, 21, 17)] 13 1332 [.ref q, .int a1, .int a2, .ref o] h (fun v h1 => RK 1600 lgv h h1 q o (smType a1 a2 s) v) := by
  have w := hI.ws
  have hl : ∀ e, e ≤ 1 → (eX (zE s e)).length ≤ 200 := fun e he => (w.1 e he).1.1.1
  refine (l_type z.k (x_type z w) (fun v h1 y => ?_) (fun N h1 y => ?_)).mono (fun v h1 y => ?_)
  · rcases y with ⟨⟨e, c, he, rfl, rfl, g1, g2, g3, g4, ev, la, z1⟩, fc⟩
    all_goals exact ⟨⟨_, ev⟩, Fr.K fc ko (by decide)⟩
  · rcases y with ⟨⟨n, y⟩ | ⟨e, he, rfl, ⟨n, y⟩ | ⟨n, y2, y3⟩⟩, rfl⟩
    all_goals first | exact Or.inl n | exact Or.inr (Or.inl n) | exact Or.inr (Or.inr n)
  · obtain ⟨c9, rfl, ⟨rfl, u, h0, r, rfl⟩ | ⟨rfl, y⟩ | ⟨rfl, y⟩ | ⟨rfl, y⟩⟩ := y
    · rcases r with ⟨⟨e, c, he, rfl, rfl, g1, g2, g3, g4, ev, la, z1⟩, fc⟩
      all_goals cases ev
      exact RK_ok (smType_0 he g1 g2 g3 g4) z1 fc (by decide) ko (by decide) ho rfl
    · rcases y with ⟨⟨n, y⟩ | ⟨e, he, rfl, ⟨n, y⟩ | ⟨n, y2, y3⟩⟩, rfl⟩
      all_goals first | exact absurd n (by decide) | exact RK_bad (smE_n y) (by decide) z (FO.refl _) | exact RK_bad (smType_2 he y) (by decide) z (FO.refl _) | exact RK_bad (smType_3 he y2 y3) (by decide) z (FO.refl _)
    · rcases y with ⟨⟨n, y⟩ | ⟨e, he, rfl, ⟨n, y⟩ | ⟨n, y2, y3⟩⟩, rfl⟩
      all_goals first | exact absurd n (by decide) | exact RK_bad (smE_n y) (by decide) z (FO.refl _) | exact RK_bad (smType_2 he y) (by decide) z (FO.refl _) | exact RK_bad (smType_3 he y2 y3) (by decide) z (FO.refl _)
    · rcases y with ⟨⟨n, y⟩ | ⟨e, he, rfl, ⟨n, y⟩ | ⟨n, y2, y3⟩⟩, rfl⟩
      all_goals first | exact absurd n (by decide) | exact RK_bad (smE_n y) (by decide) z (FO.refl _) | exact RK_bad (smType_2 he y) (by decide) z (FO.refl _) | exact RK_bad (smType_3 he y2 y3) (by decide) z (FO.refl _)
theorem k_erase {E : EV} {h : AH} {q o : Nat} {G : GQ} {s : SQ} (z : RC h q G s) (hI : INV s) (ko : qK h o = 16) (ho : own h o = .ref 11) {a1 : Int32} : CtW E yL_erase cL_erase 4 (some .int) [(0, 9, 12, 13), (0, 9, 15, 31), (0, 9, 18, 17)] 13 1332 [.ref q, .int a1, .ref o] h (fun v h1 => RK 1600 lgv h h1 q o (smErase a1 s) v) := by
  have w := hI.ws
  have hl : ∀ e, e ≤ 1 → (eX (zE s e)).length ≤ 200 := fun e he => (w.1 e he).1.1.1
  refine (l_erase z.k (x_erase z w hI.cu) (fun v h1 y => ?_) (fun N h1 y => ?_)).mono (fun v h1 y => ?_)
  · rcases y with ⟨⟨e, a, he, rfl, g0, hy, g4, ev, z1⟩, fc⟩
    all_goals exact ⟨⟨_, ev⟩, Fr.K fc ko (by decide)⟩
  · rcases y with ⟨⟨n, y⟩ | ⟨e, he, rfl, ⟨n, y⟩ | ⟨n, y2, y3⟩⟩, rfl⟩
    all_goals first | exact Or.inl n | exact Or.inr (Or.inl n) | exact Or.inr (Or.inr n)
  · obtain ⟨c9, rfl, ⟨rfl, u, h0, r, rfl⟩ | ⟨rfl, y⟩ | ⟨rfl, y⟩ | ⟨rfl, y⟩⟩ := y
    · rcases r with ⟨⟨e, a, he, rfl, g0, hy, g4, ev, z1⟩, fc⟩
      all_goals cases ev
      exact RK_ok (smErase_0 he g0 hy g4) z1 fc (by decide) ko (by decide) ho rfl
    · rcases y with ⟨⟨n, y⟩ | ⟨e, he, rfl, ⟨n, y⟩ | ⟨n, y2, y3⟩⟩, rfl⟩
      all_goals first | exact absurd n (by decide) | exact RK_bad (smE_n y) (by decide) z (FO.refl _) | exact RK_bad (smErase_2 he y) (by decide) z (FO.refl _) | exact RK_bad (smErase_3 he y2 y3) (by decide) z (FO.refl _)
    · rcases y with ⟨⟨n, y⟩ | ⟨e, he, rfl, ⟨n, y⟩ | ⟨n, y2, y3⟩⟩, rfl⟩
      all_goals first | exact absurd n (by decide) | exact RK_bad (smE_n y) (by decide) z (FO.refl _) | exact RK_bad (smErase_2 he y) (by decide) z (FO.refl _) | exact RK_bad (smErase_3 he y2 y3) (by decide) z (FO.refl _)
    · rcases y with ⟨⟨n, y⟩ | ⟨e, he, rfl, ⟨n, y⟩ | ⟨n, y2, y3⟩⟩, rfl⟩
      all_goals first | exact absurd n (by decide) | exact RK_bad (smE_n y) (by decide) z (FO.refl _) | exact RK_bad (smErase_2 he y) (by decide) z (FO.refl _) | exact RK_bad (smErase_3 he y2 y3) (by decide) z (FO.refl _)
theorem k_moveCursor {E : EV} {h : AH} {q o : Nat} {G : GQ} {s : SQ} (z : RC h q G s) (hI : INV s) (ko : qK h o = 16) (ho : own h o = .ref 11) {a1 a2 : Int32} : CtW E yL_moveCursor cL_moveCursor 5 (some .int) [(0, 10, 13, 13), (0, 10, 17, 15)] 8 6 [.ref q, .int a1, .int a2, .ref o] h (fun v h1 => RK 1600 lgv h h1 q o (smMove a1 a2 s) v) := by
  have w := hI.ws
  have hl : ∀ e, e ≤ 1 → (eX (zE s e)).length ≤ 200 := fun e he => (w.1 e he).1.1.1
  refine (l_moveCursor z.k (x_moveCursor z w) (fun v h1 y => ?_) (fun N h1 y => ?_)).mono (fun v h1 y => ?_)
  · rcases y with ⟨⟨e, i, he, rfl, rfl, hi, ev, z1⟩, fc⟩
    all_goals exact ⟨⟨_, ev⟩, Fr.K fc ko (by decide)⟩
  · rcases y with ⟨⟨n, y⟩ | ⟨e, he, rfl, n, y⟩, rfl⟩
    all_goals first | exact Or.inl n | exact Or.inr n
  · obtain ⟨c9, rfl, ⟨rfl, u, h0, r, rfl⟩ | ⟨rfl, y⟩ | ⟨rfl, y⟩⟩ := y
    · rcases r with ⟨⟨e, i, he, rfl, rfl, hi, ev, z1⟩, fc⟩
      all_goals cases ev
      exact RK_ok (smMove_0 he (hl e he) hi) z1 fc (by decide) ko (by decide) ho rfl
    · rcases y with ⟨⟨n, y⟩ | ⟨e, he, rfl, n, y⟩, rfl⟩
      all_goals first | exact absurd n (by decide) | exact RK_bad (smE_n y) (by decide) z (FO.refl _) | exact RK_bad (smMove_2 he y) (by decide) z (FO.refl _)
    · rcases y with ⟨⟨n, y⟩ | ⟨e, he, rfl, n, y⟩, rfl⟩
      all_goals first | exact absurd n (by decide) | exact RK_bad (smE_n y) (by decide) z (FO.refl _) | exact RK_bad (smMove_2 he y) (by decide) z (FO.refl _)
theorem k_undo {E : EV} {h : AH} {q o : Nat} {G : GQ} {s : SQ} (z : RC h q G s) (hI : INV s) (ko : qK h o = 16) (ho : own h o = .ref 11) {a1 : Int32} : CtW E yL_undo cL_undo 4 (some .int) [(0, 16, 19, 13), (0, 16, 22, 31), (0, 16, 25, 17)] 13 1232 [.ref q, .int a1, .ref o] h (fun v h1 => RK 1600 lgv h h1 q o (smUndo a1 s) v) := by
  have w := hI.ws
  have hl : ∀ e, e ≤ 1 → (eX (zE s e)).length ≤ 200 := fun e he => (w.1 e he).1.1.1
  refine (l_undo z.k (x_undo z w) (fun v h1 y => ?_) (fun N h1 y => ?_)).mono (fun v h1 y => ?_)
  · rcases y with ⟨⟨e, n0, kk, he, rfl, hn, hk, ⟨k1, hf, ev, z1⟩ | ⟨k1, i, hf, g4, ev, z1⟩ | ⟨k0, ev, g3, g4, la, z1⟩⟩, fc⟩
    all_goals exact ⟨⟨_, ev⟩, Fr.K fc ko (by decide)⟩
  · rcases y with ⟨⟨n, y⟩ | ⟨e, he, rfl, ⟨n, y⟩ | ⟨n, n0, kk, hn, hk, ⟨k1, ⟨i, hf⟩, g4⟩ | ⟨k0, g4⟩⟩⟩, rfl⟩
    all_goals first | exact Or.inl n | exact Or.inr (Or.inl n) | exact Or.inr (Or.inr n)
  · obtain ⟨c9, rfl, ⟨rfl, u, h0, r, rfl⟩ | ⟨rfl, y⟩ | ⟨rfl, y⟩ | ⟨rfl, y⟩⟩ := y
    · rcases r with ⟨⟨e, n0, kk, he, rfl, hn, hk, ⟨k1, hf, ev, z1⟩ | ⟨k1, i, hf, g4, ev, z1⟩ | ⟨k0, ev, g3, g4, la, z1⟩⟩, fc⟩
      all_goals cases ev
      · exact RK_ok ((smUndo_k he hn hk).trans (by rw [if_pos k1, hf])) z1 fc (by decide) ko (by decide) ho (by decide)
      · exact RK_ok ((smUndo_k he hn hk).trans (by rw [if_pos k1, hf]; exact if_pos g4)) z1 fc (by decide) ko (by decide) ho (by decide)
      · exact RK_ok ((smUndo_k he hn hk).trans (by rw [if_neg (by omega), if_pos ⟨g3, g4⟩])) z1 fc (by decide) ko (by decide) ho (by decide)
    · rcases y with ⟨⟨n, y⟩ | ⟨e, he, rfl, ⟨n, y⟩ | ⟨n, n0, kk, hn, hk, ⟨k1, ⟨i, hf⟩, g4⟩ | ⟨k0, g4⟩⟩⟩, rfl⟩
      all_goals first | exact absurd n (by decide) | exact RK_bad (smE_n y) (by decide) z (FO.refl _) | exact RK_bad (smUndo_2 he y) (by decide) z (FO.refl _) | exact RK_bad ((smUndo_k he hn hk).trans (by rw [if_pos k1, hf]; exact if_neg g4)) (by decide) z (FO.refl _) | exact RK_bad ((smUndo_k he hn hk).trans (by rw [if_neg (by omega), if_neg g4])) (by decide) z (FO.refl _)
    · rcases y with ⟨⟨n, y⟩ | ⟨e, he, rfl, ⟨n, y⟩ | ⟨n, n0, kk, hn, hk, ⟨k1, ⟨i, hf⟩, g4⟩ | ⟨k0, g4⟩⟩⟩, rfl⟩
      all_goals first | exact absurd n (by decide) | exact RK_bad (smE_n y) (by decide) z (FO.refl _) | exact RK_bad (smUndo_2 he y) (by decide) z (FO.refl _) | exact RK_bad ((smUndo_k he hn hk).trans (by rw [if_pos k1, hf]; exact if_neg g4)) (by decide) z (FO.refl _) | exact RK_bad ((smUndo_k he hn hk).trans (by rw [if_neg (by omega), if_neg g4])) (by decide) z (FO.refl _)
    · rcases y with ⟨⟨n, y⟩ | ⟨e, he, rfl, ⟨n, y⟩ | ⟨n, n0, kk, hn, hk, ⟨k1, ⟨i, hf⟩, g4⟩ | ⟨k0, g4⟩⟩⟩, rfl⟩
      all_goals first | exact absurd n (by decide) | exact RK_bad (smE_n y) (by decide) z (FO.refl _) | exact RK_bad (smUndo_2 he y) (by decide) z (FO.refl _) | exact RK_bad ((smUndo_k he hn hk).trans (by rw [if_pos k1, hf]; exact if_neg g4)) (by decide) z (FO.refl _) | exact RK_bad ((smUndo_k he hn hk).trans (by rw [if_neg (by omega), if_neg g4])) (by decide) z (FO.refl _)
theorem k_deliverUp {E : EV} {h : AH} {q o : Nat} {G : GQ} {s : SQ} (z : RC h q G s) (hI : INV s) (ko : qK h o = 16) (ho : own h o = .ref 11) {a1 : Int32} : CtW E yL_deliverUp cL_deliverUp 4 (some .int) [(0, 9, 12, 13), (0, 9, 15, 31)] 13 1210 [.ref q, .int a1, .ref o] h (fun v h1 => RK 1600 lgv h h1 q o (smUp a1 s) v) := by
  have w := hI.ws
  have hl : ∀ e, e ≤ 1 → (eX (zE s e)).length ≤ 200 := fun e he => (w.1 e he).1.1.1
  refine (l_deliverUp z.k (x_deliverUp z w (fun e he m hm => (hI.1.enter he hm).1)) (fun v h1 y => ?_) (fun N h1 y => ?_)).mono (fun v h1 y => ?_)
  · rcases y with ⟨⟨e, m, he, rfl, hm, ev, z1⟩, fc⟩
    all_goals exact ⟨⟨_, ev⟩, Fr.K fc ko (by decide)⟩
  · rcases y with ⟨⟨n, y⟩ | ⟨e, he, rfl, n, y⟩, rfl⟩
    all_goals first | exact Or.inl n | exact Or.inr n
  · obtain ⟨c9, rfl, ⟨rfl, u, h0, r, rfl⟩ | ⟨rfl, y⟩ | ⟨rfl, y⟩⟩ := y
    · rcases r with ⟨⟨e, m, he, rfl, hm, ev, z1⟩, fc⟩
      all_goals cases ev
      exact RK_ok (smUp_0 he hm) z1 fc (by decide) ko (by decide) ho rfl
    · rcases y with ⟨⟨n, y⟩ | ⟨e, he, rfl, n, y⟩, rfl⟩
      all_goals first | exact absurd n (by decide) | exact RK_bad (smE_n y) (by decide) z (FO.refl _) | exact RK_bad (smUp_2 he y) (by decide) z (FO.refl _)
    · rcases y with ⟨⟨n, y⟩ | ⟨e, he, rfl, n, y⟩, rfl⟩
      all_goals first | exact absurd n (by decide) | exact RK_bad (smE_n y) (by decide) z (FO.refl _) | exact RK_bad (smUp_2 he y) (by decide) z (FO.refl _)
theorem k_deliverDown {E : EV} {h : AH} {q o : Nat} {G : GQ} {s : SQ} (z : RC h q G s) (hI : INV s) (ko : qK h o = 16) (ho : own h o = .ref 11) {a1 : Int32} {B : Nat} (hB : ∀ e, e ≤ 1 → a1 = nI e → ∀ m : MG, (zH s)[eR (zE s e)]? = some m → 1318 + 104 * m.2.2.length ≤ B) (hB0 : 6 ≤ B) : CtW E yL_deliverDown cL_deliverDown 4 (some .int) [(0, 9, 12, 13), (0, 9, 15, 31)] 14 B [.ref q, .int a1, .ref o] h (fun v h1 => RK 1600 lgv h h1 q o (smDown a1 s) v) := by
  have w := hI.ws
  have hl : ∀ e, e ≤ 1 → (eX (zE s e)).length ≤ 200 := fun e he => (w.1 e he).1.1.1
  refine (l_deliverDown z.k (x_deliverDown z w hB hB0 hI.dn) (fun v h1 y => ?_) (fun N h1 y => ?_)).mono (fun v h1 y => ?_)
  · rcases y with ⟨⟨e, m, he, rfl, hm, ev, z1⟩, fc⟩
    all_goals exact ⟨⟨_, ev⟩, Fr.K fc ko (by decide)⟩
  · rcases y with ⟨⟨n, y⟩ | ⟨e, he, rfl, n, y⟩, rfl⟩
    all_goals first | exact Or.inl n | exact Or.inr n
  · obtain ⟨c9, rfl, ⟨rfl, u, h0, r, rfl⟩ | ⟨rfl, y⟩ | ⟨rfl, y⟩⟩ := y
    · rcases r with ⟨⟨e, m, he, rfl, hm, ev, z1⟩, fc⟩
      all_goals cases ev
      exact RK_ok (smDown_0 he hm) z1 fc (by decide) ko (by decide) ho rfl
    · rcases y with ⟨⟨n, y⟩ | ⟨e, he, rfl, n, y⟩, rfl⟩
      all_goals first | exact absurd n (by decide) | exact RK_bad (smE_n y) (by decide) z (FO.refl _) | exact RK_bad (smDown_2 he y) (by decide) z (FO.refl _)
    · rcases y with ⟨⟨n, y⟩ | ⟨e, he, rfl, n, y⟩, rfl⟩
      all_goals first | exact absurd n (by decide) | exact RK_bad (smE_n y) (by decide) z (FO.refl _) | exact RK_bad (smDown_2 he y) (by decide) z (FO.refl _)
theorem k_length {E : EV} {h : AH} {q o : Nat} {G : GQ} {s : SQ} (z : RC h q G s) (hI : INV s) (ko : qK h o = 16) (ho : own h o = .ref 11) {a1 : Int32} : CtW E yL_length cL_length 4 (some .int) [(0, 9, 12, 13)] 8 3 [.ref q, .int a1, .ref o] h (fun v h1 => RK 1600 lgv h h1 q o (smG (fun e => .int (nI ((eX (zE s e)).length))) a1 s) v) := by
  have w := hI.ws
  have hl : ∀ e, e ≤ 1 → (eX (zE s e)).length ≤ 200 := fun e he => (w.1 e he).1.1.1
  refine (l_length z.k (x_length z w) (fun v h1 y => ?_) (fun N h1 y => ?_)).mono (fun v h1 y => ?_)
  · rcases y with ⟨⟨e, he, rfl, ev⟩, rfl⟩
    all_goals exact ⟨⟨_, ev⟩, Fr.K (FC.refl _) ko (by decide)⟩
  · rcases y with ⟨n, y, rfl⟩
    all_goals first | exact n
  · obtain ⟨c9, rfl, ⟨rfl, u, h0, r, rfl⟩ | ⟨rfl, y⟩⟩ := y
    · rcases r with ⟨⟨e, he, rfl, ev⟩, rfl⟩
      all_goals cases ev
      exact RK_ok (smG_0 he) z (FC.refl _) (by decide) ko (by decide) ho rfl
    · rcases y with ⟨n, y, rfl⟩
      all_goals first | exact absurd n (by decide) | exact RK_bad (smE_n y) (by decide) z (FO.refl _)
theorem k_charAt {E : EV} {h : AH} {q o : Nat} {G : GQ} {s : SQ} (z : RC h q G s) (hI : INV s) (ko : qK h o = 16) (ho : own h o = .ref 11) {a1 a2 : Int32} : CtW E yL_charAt cL_charAt 5 (some .int) [(0, 10, 13, 13), (0, 10, 17, 15)] 8 6 [.ref q, .int a1, .int a2, .ref o] h (fun v h1 => RK 1600 lgv h h1 q o (smC (fun y => .int (nI (zT s y).1)) a1 a2 s) v) := by
  have w := hI.ws
  have hl : ∀ e, e ≤ 1 → (eX (zE s e)).length ≤ 200 := fun e he => (w.1 e he).1.1.1
  refine (l_charAt z.k (x_charAt z w) (fun v h1 y => ?_) (fun N h1 y => ?_)).mono (fun v h1 y => ?_)
  · rcases y with ⟨⟨e, i, a, he, rfl, rfl, hy, ev⟩, rfl⟩
    all_goals exact ⟨⟨_, ev⟩, Fr.K (FC.refl _) ko (by decide)⟩
  · rcases y with ⟨⟨n, y⟩ | ⟨n, e, he, rfl, y⟩, rfl⟩
    all_goals first | exact Or.inl n | exact Or.inr n
  · obtain ⟨c9, rfl, ⟨rfl, u, h0, r, rfl⟩ | ⟨rfl, y⟩ | ⟨rfl, y⟩⟩ := y
    · rcases r with ⟨⟨e, i, a, he, rfl, rfl, hy, ev⟩, rfl⟩
      all_goals cases ev
      exact RK_ok (smC_0 he (hl e he) hy) z (FC.refl _) (by decide) ko (by decide) ho rfl
    · rcases y with ⟨⟨n, y⟩ | ⟨n, e, he, rfl, y⟩, rfl⟩
      all_goals first | exact absurd n (by decide) | exact RK_bad (smE_n y) (by decide) z (FO.refl _) | exact RK_bad (smC_2 he (hl e he) y) (by decide) z (FO.refl _)
    · rcases y with ⟨⟨n, y⟩ | ⟨n, e, he, rfl, y⟩, rfl⟩
      all_goals first | exact absurd n (by decide) | exact RK_bad (smE_n y) (by decide) z (FO.refl _) | exact RK_bad (smC_2 he (hl e he) y) (by decide) z (FO.refl _)
theorem k_ownerAt {E : EV} {h : AH} {q o : Nat} {G : GQ} {s : SQ} (z : RC h q G s) (hI : INV s) (ko : qK h o = 16) (ho : own h o = .ref 11) {a1 a2 : Int32} : CtW E yL_ownerAt cL_ownerAt 5 (some .int) [(0, 10, 13, 13), (0, 10, 17, 15)] 8 6 [.ref q, .int a1, .int a2, .ref o] h (fun v h1 => RK 1600 lgv h h1 q o (smC (fun y => .int (nI (zT s y).2)) a1 a2 s) v) := by
  have w := hI.ws
  have hl : ∀ e, e ≤ 1 → (eX (zE s e)).length ≤ 200 := fun e he => (w.1 e he).1.1.1
  refine (l_ownerAt z.k (x_ownerAt z w) (fun v h1 y => ?_) (fun N h1 y => ?_)).mono (fun v h1 y => ?_)
  · rcases y with ⟨⟨e, i, a, he, rfl, rfl, hy, ev⟩, rfl⟩
    all_goals exact ⟨⟨_, ev⟩, Fr.K (FC.refl _) ko (by decide)⟩
  · rcases y with ⟨⟨n, y⟩ | ⟨n, e, he, rfl, y⟩, rfl⟩
    all_goals first | exact Or.inl n | exact Or.inr n
  · obtain ⟨c9, rfl, ⟨rfl, u, h0, r, rfl⟩ | ⟨rfl, y⟩ | ⟨rfl, y⟩⟩ := y
    · rcases r with ⟨⟨e, i, a, he, rfl, rfl, hy, ev⟩, rfl⟩
      all_goals cases ev
      exact RK_ok (smC_0 he (hl e he) hy) z (FC.refl _) (by decide) ko (by decide) ho rfl
    · rcases y with ⟨⟨n, y⟩ | ⟨n, e, he, rfl, y⟩, rfl⟩
      all_goals first | exact absurd n (by decide) | exact RK_bad (smE_n y) (by decide) z (FO.refl _) | exact RK_bad (smC_2 he (hl e he) y) (by decide) z (FO.refl _)
    · rcases y with ⟨⟨n, y⟩ | ⟨n, e, he, rfl, y⟩, rfl⟩
      all_goals first | exact absurd n (by decide) | exact RK_bad (smE_n y) (by decide) z (FO.refl _) | exact RK_bad (smC_2 he (hl e he) y) (by decide) z (FO.refl _)
theorem k_lengthByHistory {E : EV} {h : AH} {q o : Nat} {G : GQ} {s : SQ} (z : RC h q G s) (hI : INV s) (ko : qK h o = 16) (ho : own h o = .ref 11) {a1 : Int32} : CtW E yL_lengthByHistory cL_lengthByHistory 4 (some .int) [(0, 9, 12, 13)] 12 304 [.ref q, .int a1, .ref o] h (fun v h1 => RK 1600 lgv h h1 q o (smG (fun e => .int (nI ((eX (zE s e)).length))) a1 s) v) := by
  have w := hI.ws
  have hl : ∀ e, e ≤ 1 → (eX (zE s e)).length ≤ 200 := fun e he => (w.1 e he).1.1.1
  refine (l_lengthByHistory z.k (x_lengthByHistory z w hI.hH hI.ht hI.hx) (fun v h1 y => ?_) (fun N h1 y => ?_)).mono (fun v h1 y => ?_)
  · rcases y with ⟨⟨e, he, rfl, ev⟩, z1, fc⟩
    all_goals exact ⟨⟨_, ev⟩, Fr.K fc ko (by decide)⟩
  · rcases y with ⟨n, y, rfl⟩
    all_goals first | exact n
  · obtain ⟨c9, rfl, ⟨rfl, u, h0, r, rfl⟩ | ⟨rfl, y⟩⟩ := y
    · rcases r with ⟨⟨e, he, rfl, ev⟩, z1, fc⟩
      all_goals cases ev
      exact RK_ok (smG_0 he) z1 fc (by decide) ko (by decide) ho rfl
    · rcases y with ⟨n, y, rfl⟩
      all_goals first | exact absurd n (by decide) | exact RK_bad (smE_n y) (by decide) z (FO.refl _)
theorem k_charByHistory {E : EV} {h : AH} {q o : Nat} {G : GQ} {s : SQ} (z : RC h q G s) (hI : INV s) (ko : qK h o = 16) (ho : own h o = .ref 11) {a1 a2 : Int32} : CtW E yL_charByHistory cL_charByHistory 5 (some .int) [(0, 10, 13, 13), (0, 10, 17, 15)] 12 307 [.ref q, .int a1, .int a2, .ref o] h (fun v h1 => RK 1600 lgv h h1 q o (smC (fun y => .int (nI (zT s y).1)) a1 a2 s) v) := by
  have w := hI.ws
  have hl : ∀ e, e ≤ 1 → (eX (zE s e)).length ≤ 200 := fun e he => (w.1 e he).1.1.1
  refine (l_charByHistory z.k (x_charByHistory z w hI.hH hI.ht hI.hx) (fun v h1 y => ?_) (fun N h1 y => ?_)).mono (fun v h1 y => ?_)
  · rcases y with ⟨⟨e, i, a, he, rfl, rfl, hy, ev⟩, z1, fc⟩
    all_goals exact ⟨⟨_, ev⟩, Fr.K fc ko (by decide)⟩
  · rcases y with ⟨⟨n, y⟩ | ⟨n, e, he, rfl, y⟩, z9, f9⟩
    all_goals first | exact Or.inl n | exact Or.inr n
  · obtain ⟨c9, rfl, ⟨rfl, u, h0, r, rfl⟩ | ⟨rfl, y⟩ | ⟨rfl, y⟩⟩ := y
    · rcases r with ⟨⟨e, i, a, he, rfl, rfl, hy, ev⟩, z1, fc⟩
      all_goals cases ev
      exact RK_ok (smC_0 he (hl e he) hy) z1 fc (by decide) ko (by decide) ho rfl
    · rcases y with ⟨⟨n, y⟩ | ⟨n, e, he, rfl, y⟩, z9, f9⟩
      all_goals first | exact absurd n (by decide) | exact RK_bad (smE_n y) (by decide) z9 f9.fo | exact RK_bad (smC_2 he (hl e he) y) (by decide) z9 f9.fo
    · rcases y with ⟨⟨n, y⟩ | ⟨n, e, he, rfl, y⟩, z9, f9⟩
      all_goals first | exact absurd n (by decide) | exact RK_bad (smE_n y) (by decide) z9 f9.fo | exact RK_bad (smC_2 he (hl e he) y) (by decide) z9 f9.fo
theorem k_centreChar {E : EV} {h : AH} {q o : Nat} {G : GQ} {s : SQ} (z : RC h q G s) (hI : INV s) (ko : qK h o = 16) (ho : own h o = .ref 11) {a1 : Int32} : CtW E yL_centreChar cL_centreChar 4 (some .int) [(0, 9, 12, 15)] 8 3 [.ref q, .int a1, .ref o] h (fun v h1 => RK 1600 lgv h h1 q o (smCC a1 s) v) := by
  have w := hI.ws
  have hl : ∀ e, e ≤ 1 → (eX (zE s e)).length ≤ 200 := fun e he => (w.1 e he).1.1.1
  refine (l_centreChar z.k (x_centreChar z w) (fun v h1 y => ?_) (fun N h1 y => ?_)).mono (fun v h1 y => ?_)
  · rcases y with ⟨⟨i, a, rfl, hy, ev⟩, rfl⟩
    all_goals exact ⟨⟨_, ev⟩, Fr.K (FC.refl _) ko (by decide)⟩
  · rcases y with ⟨n, y, rfl⟩
    all_goals first | exact n
  · obtain ⟨c9, rfl, ⟨rfl, u, h0, r, rfl⟩ | ⟨rfl, y⟩⟩ := y
    · rcases r with ⟨⟨i, a, rfl, hy, ev⟩, rfl⟩
      all_goals cases ev
      exact RK_ok (smP_i hy w.2.1.1) z (FC.refl _) (by decide) ko (by decide) ho rfl
    · rcases y with ⟨n, y, rfl⟩
      all_goals first | exact absurd n (by decide) | exact RK_bad (smP_n y w.2.1.1) (by decide) z (FO.refl _)
theorem k_cursor {E : EV} {h : AH} {q o : Nat} {G : GQ} {s : SQ} (z : RC h q G s) (hI : INV s) (ko : qK h o = 16) (ho : own h o = .ref 11) {a1 : Int32} : CtW E yL_cursor cL_cursor 4 (some .int) [(0, 9, 12, 13)] 8 3 [.ref q, .int a1, .ref o] h (fun v h1 => RK 1600 lgv h h1 q o (smG (fun e => .int (nI (eC (zE s e)))) a1 s) v) := by
  have w := hI.ws
  have hl : ∀ e, e ≤ 1 → (eX (zE s e)).length ≤ 200 := fun e he => (w.1 e he).1.1.1
  refine (l_cursor z.k (x_cursor z w) (fun v h1 y => ?_) (fun N h1 y => ?_)).mono (fun v h1 y => ?_)
  · rcases y with ⟨⟨e, he, rfl, ev⟩, rfl⟩
    all_goals exact ⟨⟨_, ev⟩, Fr.K (FC.refl _) ko (by decide)⟩
  · rcases y with ⟨n, y, rfl⟩
    all_goals first | exact n
  · obtain ⟨c9, rfl, ⟨rfl, u, h0, r, rfl⟩ | ⟨rfl, y⟩⟩ := y
    · rcases r with ⟨⟨e, he, rfl, ev⟩, rfl⟩
      all_goals cases ev
      exact RK_ok (smG_0 he) z (FC.refl _) (by decide) ko (by decide) ho rfl
    · rcases y with ⟨n, y, rfl⟩
      all_goals first | exact absurd n (by decide) | exact RK_bad (smE_n y) (by decide) z (FO.refl _)
theorem k_mark {E : EV} {h : AH} {q o : Nat} {G : GQ} {s : SQ} (z : RC h q G s) (hI : INV s) (ko : qK h o = 16) (ho : own h o = .ref 11) {a1 : Int32} : CtW E yL_mark cL_mark 4 (some .int) [(0, 9, 12, 13)] 8 3 [.ref q, .int a1, .ref o] h (fun v h1 => RK 1600 lgv h h1 q o (smG (fun e => .int (nI (eMk (zE s e)))) a1 s) v) := by
  have w := hI.ws
  have hl : ∀ e, e ≤ 1 → (eX (zE s e)).length ≤ 200 := fun e he => (w.1 e he).1.1.1
  refine (l_mark z.k (x_mark z w) (fun v h1 y => ?_) (fun N h1 y => ?_)).mono (fun v h1 y => ?_)
  · rcases y with ⟨⟨e, he, rfl, ev⟩, rfl⟩
    all_goals exact ⟨⟨_, ev⟩, Fr.K (FC.refl _) ko (by decide)⟩
  · rcases y with ⟨n, y, rfl⟩
    all_goals first | exact n
  · obtain ⟨c9, rfl, ⟨rfl, u, h0, r, rfl⟩ | ⟨rfl, y⟩⟩ := y
    · rcases r with ⟨⟨e, he, rfl, ev⟩, rfl⟩
      all_goals cases ev
      exact RK_ok (smG_0 he) z (FC.refl _) (by decide) ko (by decide) ho rfl
    · rcases y with ⟨n, y, rfl⟩
      all_goals first | exact absurd n (by decide) | exact RK_bad (smE_n y) (by decide) z (FO.refl _)
theorem k_revision {E : EV} {h : AH} {q o : Nat} {G : GQ} {s : SQ} (z : RC h q G s) (hI : INV s) (ko : qK h o = 16) (ho : own h o = .ref 11) {a1 : Int32} : CtW E yL_revision cL_revision 4 (some .int) [(0, 9, 12, 13)] 8 3 [.ref q, .int a1, .ref o] h (fun v h1 => RK 1600 lgv h h1 q o (smG (fun e => .int (nI (eR (zE s e)))) a1 s) v) := by
  have w := hI.ws
  have hl : ∀ e, e ≤ 1 → (eX (zE s e)).length ≤ 200 := fun e he => (w.1 e he).1.1.1
  refine (l_revision z.k (x_revision z w) (fun v h1 y => ?_) (fun N h1 y => ?_)).mono (fun v h1 y => ?_)
  · rcases y with ⟨⟨e, he, rfl, ev⟩, rfl⟩
    all_goals exact ⟨⟨_, ev⟩, Fr.K (FC.refl _) ko (by decide)⟩
  · rcases y with ⟨n, y, rfl⟩
    all_goals first | exact n
  · obtain ⟨c9, rfl, ⟨rfl, u, h0, r, rfl⟩ | ⟨rfl, y⟩⟩ := y
    · rcases r with ⟨⟨e, he, rfl, ev⟩, rfl⟩
      all_goals cases ev
      exact RK_ok (smG_0 he) z (FC.refl _) (by decide) ko (by decide) ho rfl
    · rcases y with ⟨n, y, rfl⟩
      all_goals first | exact absurd n (by decide) | exact RK_bad (smE_n y) (by decide) z (FO.refl _)
theorem k_sent {E : EV} {h : AH} {q o : Nat} {G : GQ} {s : SQ} (z : RC h q G s) (hI : INV s) (ko : qK h o = 16) (ho : own h o = .ref 11) {a1 : Int32} : CtW E yL_sent cL_sent 4 (some .int) [(0, 9, 12, 13)] 8 3 [.ref q, .int a1, .ref o] h (fun v h1 => RK 1600 lgv h h1 q o (smG (fun e => .int (nI ((eS (zE s e)).length))) a1 s) v) := by
  have w := hI.ws
  have hl : ∀ e, e ≤ 1 → (eX (zE s e)).length ≤ 200 := fun e he => (w.1 e he).1.1.1
  refine (l_sent z.k (x_sent z w) (fun v h1 y => ?_) (fun N h1 y => ?_)).mono (fun v h1 y => ?_)
  · rcases y with ⟨⟨e, he, rfl, ev⟩, rfl⟩
    all_goals exact ⟨⟨_, ev⟩, Fr.K (FC.refl _) ko (by decide)⟩
  · rcases y with ⟨n, y, rfl⟩
    all_goals first | exact n
  · obtain ⟨c9, rfl, ⟨rfl, u, h0, r, rfl⟩ | ⟨rfl, y⟩⟩ := y
    · rcases r with ⟨⟨e, he, rfl, ev⟩, rfl⟩
      all_goals cases ev
      exact RK_ok (smG_0 he) z (FC.refl _) (by decide) ko (by decide) ho rfl
    · rcases y with ⟨n, y, rfl⟩
      all_goals first | exact absurd n (by decide) | exact RK_bad (smE_n y) (by decide) z (FO.refl _)
theorem k_waiting {E : EV} {h : AH} {q o : Nat} {G : GQ} {s : SQ} (z : RC h q G s) (hI : INV s) (ko : qK h o = 16) (ho : own h o = .ref 11) {a1 : Int32} : CtW E yL_waiting cL_waiting 4 (some .int) [(0, 9, 12, 13)] 8 3 [.ref q, .int a1, .ref o] h (fun v h1 => RK 1600 lgv h h1 q o (smG (fun e => .int (nI ((eW (zE s e)).length))) a1 s) v) := by
  have w := hI.ws
  have hl : ∀ e, e ≤ 1 → (eX (zE s e)).length ≤ 200 := fun e he => (w.1 e he).1.1.1
  refine (l_waiting z.k (x_waiting z w) (fun v h1 y => ?_) (fun N h1 y => ?_)).mono (fun v h1 y => ?_)
  · rcases y with ⟨⟨e, he, rfl, ev⟩, rfl⟩
    all_goals exact ⟨⟨_, ev⟩, Fr.K (FC.refl _) ko (by decide)⟩
  · rcases y with ⟨n, y, rfl⟩
    all_goals first | exact n
  · obtain ⟨c9, rfl, ⟨rfl, u, h0, r, rfl⟩ | ⟨rfl, y⟩⟩ := y
    · rcases r with ⟨⟨e, he, rfl, ev⟩, rfl⟩
      all_goals cases ev
      exact RK_ok (smG_0 he) z (FC.refl _) (by decide) ko (by decide) ho rfl
    · rcases y with ⟨n, y, rfl⟩
      all_goals first | exact absurd n (by decide) | exact RK_bad (smE_n y) (by decide) z (FO.refl _)
theorem k_runs {E : EV} {h : AH} {q o : Nat} {G : GQ} {s : SQ} (z : RC h q G s) (hI : INV s) (ko : qK h o = 16) (ho : own h o = .ref 11) {a1 : Int32} : CtW E yL_runs cL_runs 4 (some .int) [(0, 9, 12, 13)] 8 3 [.ref q, .int a1, .ref o] h (fun v h1 => RK 1600 lgv h h1 q o (smG (fun e => .int (nI (crn (eW (zE s e))))) a1 s) v) := by
  have w := hI.ws
  have hl : ∀ e, e ≤ 1 → (eX (zE s e)).length ≤ 200 := fun e he => (w.1 e he).1.1.1
  refine (l_runs z.k (x_runs z w) (fun v h1 y => ?_) (fun N h1 y => ?_)).mono (fun v h1 y => ?_)
  · rcases y with ⟨⟨e, he, rfl, ev⟩, rfl⟩
    all_goals exact ⟨⟨_, ev⟩, Fr.K (FC.refl _) ko (by decide)⟩
  · rcases y with ⟨n, y, rfl⟩
    all_goals first | exact n
  · obtain ⟨c9, rfl, ⟨rfl, u, h0, r, rfl⟩ | ⟨rfl, y⟩⟩ := y
    · rcases r with ⟨⟨e, he, rfl, ev⟩, rfl⟩
      all_goals cases ev
      exact RK_ok (smG_0 he) z (FC.refl _) (by decide) ko (by decide) ho rfl
    · rcases y with ⟨n, y, rfl⟩
      all_goals first | exact absurd n (by decide) | exact RK_bad (smE_n y) (by decide) z (FO.refl _)
theorem k_up {E : EV} {h : AH} {q o : Nat} {G : GQ} {s : SQ} (z : RC h q G s) (hI : INV s) (ko : qK h o = 16) (ho : own h o = .ref 11) {a1 : Int32} : CtW E yL_up cL_up 4 (some .int) [(0, 9, 12, 13)] 8 3 [.ref q, .int a1, .ref o] h (fun v h1 => RK 1600 lgv h h1 q o (smG (fun e => .int (nI ((zU s e).length))) a1 s) v) := by
  have w := hI.ws
  have hl : ∀ e, e ≤ 1 → (eX (zE s e)).length ≤ 200 := fun e he => (w.1 e he).1.1.1
  refine (l_up z.k (x_up z w) (fun v h1 y => ?_) (fun N h1 y => ?_)).mono (fun v h1 y => ?_)
  · rcases y with ⟨⟨e, he, rfl, ev⟩, rfl⟩
    all_goals exact ⟨⟨_, ev⟩, Fr.K (FC.refl _) ko (by decide)⟩
  · rcases y with ⟨n, y, rfl⟩
    all_goals first | exact n
  · obtain ⟨c9, rfl, ⟨rfl, u, h0, r, rfl⟩ | ⟨rfl, y⟩⟩ := y
    · rcases r with ⟨⟨e, he, rfl, ev⟩, rfl⟩
      all_goals cases ev
      exact RK_ok (smG_0 he) z (FC.refl _) (by decide) ko (by decide) ho rfl
    · rcases y with ⟨n, y, rfl⟩
      all_goals first | exact absurd n (by decide) | exact RK_bad (smE_n y) (by decide) z (FO.refl _)
theorem k_down {E : EV} {h : AH} {q o : Nat} {G : GQ} {s : SQ} (z : RC h q G s) (hI : INV s) (ko : qK h o = 16) (ho : own h o = .ref 11) {a1 : Int32} : CtW E yL_down cL_down 4 (some .int) [(0, 9, 12, 13)] 8 3 [.ref q, .int a1, .ref o] h (fun v h1 => RK 1600 lgv h h1 q o (smG (fun e => .int (nI ((zH s).length - eR (zE s e)))) a1 s) v) := by
  have w := hI.ws
  have hl : ∀ e, e ≤ 1 → (eX (zE s e)).length ≤ 200 := fun e he => (w.1 e he).1.1.1
  refine (l_down z.k (x_down z w) (fun v h1 y => ?_) (fun N h1 y => ?_)).mono (fun v h1 y => ?_)
  · rcases y with ⟨⟨e, he, rfl, ev⟩, rfl⟩
    all_goals exact ⟨⟨_, ev⟩, Fr.K (FC.refl _) ko (by decide)⟩
  · rcases y with ⟨n, y, rfl⟩
    all_goals first | exact n
  · obtain ⟨c9, rfl, ⟨rfl, u, h0, r, rfl⟩ | ⟨rfl, y⟩⟩ := y
    · rcases r with ⟨⟨e, he, rfl, ev⟩, rfl⟩
      all_goals cases ev
      exact RK_ok (smG_0 he) z (FC.refl _) (by decide) ko (by decide) ho rfl
    · rcases y with ⟨n, y, rfl⟩
      all_goals first | exact absurd n (by decide) | exact RK_bad (smE_n y) (by decide) z (FO.refl _)
theorem k_kept {E : EV} {h : AH} {q o : Nat} {G : GQ} {s : SQ} (z : RC h q G s) (hI : INV s) (ko : qK h o = 16) (ho : own h o = .ref 11) {a1 : Int32} : CtW E yL_kept cL_kept 4 (some .int) [(0, 9, 12, 13)] 8 3 [.ref q, .int a1, .ref o] h (fun v h1 => RK 1600 lgv h h1 q o (smG (fun e => .int (nI ((eK (zE s e)).length))) a1 s) v) := by
  have w := hI.ws
  have hl : ∀ e, e ≤ 1 → (eX (zE s e)).length ≤ 200 := fun e he => (w.1 e he).1.1.1
  refine (l_kept z.k (x_kept z w) (fun v h1 y => ?_) (fun N h1 y => ?_)).mono (fun v h1 y => ?_)
  · rcases y with ⟨⟨e, he, rfl, ev⟩, rfl⟩
    all_goals exact ⟨⟨_, ev⟩, Fr.K (FC.refl _) ko (by decide)⟩
  · rcases y with ⟨n, y, rfl⟩
    all_goals first | exact n
  · obtain ⟨c9, rfl, ⟨rfl, u, h0, r, rfl⟩ | ⟨rfl, y⟩⟩ := y
    · rcases r with ⟨⟨e, he, rfl, ev⟩, rfl⟩
      all_goals cases ev
      exact RK_ok (smG_0 he) z (FC.refl _) (by decide) ko (by decide) ho rfl
    · rcases y with ⟨n, y, rfl⟩
      all_goals first | exact absurd n (by decide) | exact RK_bad (smE_n y) (by decide) z (FO.refl _)
theorem k_historyEnd {E : EV} {h : AH} {q o : Nat} {G : GQ} {s : SQ} (z : RC h q G s) (hI : INV s) (ko : qK h o = 16) (ho : own h o = .ref 11) {a1 : Int32} : CtW E yL_historyEnd cL_historyEnd 4 (some .int) [(0, 9, 12, 31)] 8 3 [.ref q, .int a1, .ref o] h (fun v h1 => RK 1600 lgv h h1 q o (smH (fun m => .int (nI m.1)) a1 s) v) := by
  have w := hI.ws
  have hl : ∀ e, e ≤ 1 → (eX (zE s e)).length ≤ 200 := fun e he => (w.1 e he).1.1.1
  refine (l_historyEnd z.k (x_historyEnd z w) (fun v h1 y => ?_) (fun N h1 y => ?_)).mono (fun v h1 y => ?_)
  · rcases y with ⟨⟨i, m, rfl, hy, ev⟩, rfl⟩
    all_goals exact ⟨⟨_, ev⟩, Fr.K (FC.refl _) ko (by decide)⟩
  · rcases y with ⟨n, y, rfl⟩
    all_goals first | exact n
  · obtain ⟨c9, rfl, ⟨rfl, u, h0, r, rfl⟩ | ⟨rfl, y⟩⟩ := y
    · rcases r with ⟨⟨i, m, rfl, hy, ev⟩, rfl⟩
      all_goals cases ev
      exact RK_ok (smP_i hy w.2.2.1.1) z (FC.refl _) (by decide) ko (by decide) ho rfl
    · rcases y with ⟨n, y, rfl⟩
      all_goals first | exact absurd n (by decide) | exact RK_bad (smP_n y w.2.2.1.1) (by decide) z (FO.refl _)
theorem k_historySize {E : EV} {h : AH} {q o : Nat} {G : GQ} {s : SQ} (z : RC h q G s) (hI : INV s) (ko : qK h o = 16) (ho : own h o = .ref 11) {a1 : Int32} : CtW E yL_historySize cL_historySize 4 (some .int) [(0, 9, 12, 31)] 8 3 [.ref q, .int a1, .ref o] h (fun v h1 => RK 1600 lgv h h1 q o (smH (fun m => .int (nI m.2.2.length)) a1 s) v) := by
  have w := hI.ws
  have hl : ∀ e, e ≤ 1 → (eX (zE s e)).length ≤ 200 := fun e he => (w.1 e he).1.1.1
  refine (l_historySize z.k (x_historySize z w) (fun v h1 y => ?_) (fun N h1 y => ?_)).mono (fun v h1 y => ?_)
  · rcases y with ⟨⟨i, m, rfl, hy, ev⟩, rfl⟩
    all_goals exact ⟨⟨_, ev⟩, Fr.K (FC.refl _) ko (by decide)⟩
  · rcases y with ⟨n, y, rfl⟩
    all_goals first | exact n
  · obtain ⟨c9, rfl, ⟨rfl, u, h0, r, rfl⟩ | ⟨rfl, y⟩⟩ := y
    · rcases r with ⟨⟨i, m, rfl, hy, ev⟩, rfl⟩
      all_goals cases ev
      exact RK_ok (smP_i hy w.2.2.1.1) z (FC.refl _) (by decide) ko (by decide) ho rfl
    · rcases y with ⟨n, y, rfl⟩
      all_goals first | exact absurd n (by decide) | exact RK_bad (smP_n y w.2.2.1.1) (by decide) z (FO.refl _)
theorem k_historyKind {E : EV} {h : AH} {q o : Nat} {G : GQ} {s : SQ} (z : RC h q G s) (hI : INV s) (ko : qK h o = 16) (ho : own h o = .ref 11) {a1 a2 : Int32} : CtW E yL_historyKind cL_historyKind 5 (some .int) [(0, 10, 13, 31), (0, 10, 17, 13)] 9 6 [.ref q, .int a1, .int a2, .ref o] h (fun v h1 => RK 1600 lgv h h1 q o (smHo (fun o => .int (kc o.1)) a1 a2 s) v) := by
  have w := hI.ws
  have hl : ∀ e, e ≤ 1 → (eX (zE s e)).length ≤ 200 := fun e he => (w.1 e he).1.1.1
  refine (l_historyKind z.k (x_historyKind z w) (fun v h1 y => ?_) (fun N h1 y => ?_)).mono (fun v h1 y => ?_)
  · rcases y with ⟨⟨i, j, m, o2, rfl, rfl, hm, hy, ev⟩, rfl⟩
    all_goals exact ⟨⟨_, ev⟩, Fr.K (FC.refl _) ko (by decide)⟩
  · rcases y with ⟨⟨n, y⟩ | ⟨n, i, m, rfl, hm, y⟩, rfl⟩
    all_goals first | exact Or.inl n | exact Or.inr n
  · obtain ⟨c9, rfl, ⟨rfl, u, h0, r, rfl⟩ | ⟨rfl, y⟩ | ⟨rfl, y⟩⟩ := y
    · rcases r with ⟨⟨i, j, m, o2, rfl, rfl, hm, hy, ev⟩, rfl⟩
      all_goals cases ev
      exact RK_ok (smHo_0 w hm hy) z (FC.refl _) (by decide) ko (by decide) ho rfl
    · rcases y with ⟨⟨n, y⟩ | ⟨n, i, m, rfl, hm, y⟩, rfl⟩
      all_goals first | exact absurd n (by decide) | exact RK_bad (smP_n y w.2.2.1.1) (by decide) z (FO.refl _) | exact RK_bad (smHo_2 w hm y) (by decide) z (FO.refl _)
    · rcases y with ⟨⟨n, y⟩ | ⟨n, i, m, rfl, hm, y⟩, rfl⟩
      all_goals first | exact absurd n (by decide) | exact RK_bad (smP_n y w.2.2.1.1) (by decide) z (FO.refl _) | exact RK_bad (smHo_2 w hm y) (by decide) z (FO.refl _)
theorem k_historyPosition {E : EV} {h : AH} {q o : Nat} {G : GQ} {s : SQ} (z : RC h q G s) (hI : INV s) (ko : qK h o = 16) (ho : own h o = .ref 11) {a1 a2 : Int32} : CtW E yL_historyPosition cL_historyPosition 5 (some .int) [(0, 10, 13, 31), (0, 10, 17, 13)] 9 6 [.ref q, .int a1, .int a2, .ref o] h (fun v h1 => RK 1600 lgv h h1 q o (smHo (fun o => .int (ps o.1 o.2.1)) a1 a2 s) v) := by
  have w := hI.ws
  have hl : ∀ e, e ≤ 1 → (eX (zE s e)).length ≤ 200 := fun e he => (w.1 e he).1.1.1
  refine (l_historyPosition z.k (x_historyPosition z w) (fun v h1 y => ?_) (fun N h1 y => ?_)).mono (fun v h1 y => ?_)
  · rcases y with ⟨⟨i, j, m, o2, rfl, rfl, hm, hy, ev⟩, rfl⟩
    all_goals exact ⟨⟨_, ev⟩, Fr.K (FC.refl _) ko (by decide)⟩
  · rcases y with ⟨⟨n, y⟩ | ⟨n, i, m, rfl, hm, y⟩, rfl⟩
    all_goals first | exact Or.inl n | exact Or.inr n
  · obtain ⟨c9, rfl, ⟨rfl, u, h0, r, rfl⟩ | ⟨rfl, y⟩ | ⟨rfl, y⟩⟩ := y
    · rcases r with ⟨⟨i, j, m, o2, rfl, rfl, hm, hy, ev⟩, rfl⟩
      all_goals cases ev
      exact RK_ok (smHo_0 w hm hy) z (FC.refl _) (by decide) ko (by decide) ho rfl
    · rcases y with ⟨⟨n, y⟩ | ⟨n, i, m, rfl, hm, y⟩, rfl⟩
      all_goals first | exact absurd n (by decide) | exact RK_bad (smP_n y w.2.2.1.1) (by decide) z (FO.refl _) | exact RK_bad (smHo_2 w hm y) (by decide) z (FO.refl _)
    · rcases y with ⟨⟨n, y⟩ | ⟨n, i, m, rfl, hm, y⟩, rfl⟩
      all_goals first | exact absurd n (by decide) | exact RK_bad (smP_n y w.2.2.1.1) (by decide) z (FO.refl _) | exact RK_bad (smHo_2 w hm y) (by decide) z (FO.refl _)
theorem k_ownShare {E : EV} {h : AH} {q o : Nat} {G : GQ} {s : SQ} (z : RC h q G s) (hI : INV s) (ko : qK h o = 17) (ho : own h o = .ref 11) {a1 : Int32} : CtW E yL_ownShare cL_ownShare 4 (some .int) [(0, 9, 12, 13), (0, 9, 15, 109)] 8 6 [.ref q, .int a1, .ref o] h (fun v h1 => RK 1700 lgd h h1 q o (smShare a1 s) v) := by
  have w := hI.ws
  have hl : ∀ e, e ≤ 1 → (eX (zE s e)).length ≤ 200 := fun e he => (w.1 e he).1.1.1
  refine (l_ownShare z.k (x_ownShare z w) (fun v h1 y => ?_) (fun u h1 y => ?_) (fun N h1 y => ?_)).mono (fun v h1 y => ?_)
  · rcases y with ⟨⟨e, he, rfl, g0, ev⟩, rfl⟩
    all_goals exact ⟨⟨_, ev⟩, Fr.K (FC.refl _) ko (by decide)⟩
  · obtain ⟨⟨e, he, rfl, g0, ev⟩, rfl⟩ := y
    cases ev
    exact vf_f2d (nn32 (Nat.lt_of_le_of_lt (Nat.le_trans (cow_le _ _ _) (hl e he)) (by decide)) (Nat.lt_of_le_of_lt (hl e he) (by decide)) g0)
  · rcases y with ⟨⟨n, y⟩ | ⟨n, e, he, rfl, y⟩, rfl⟩
    all_goals first | exact Or.inl n | exact Or.inr n
  · obtain ⟨c9, rfl, ⟨rfl, u, h0, r, rfl⟩ | ⟨rfl, y⟩ | ⟨rfl, y⟩⟩ := y
    · rcases r with ⟨⟨e, he, rfl, g0, ev⟩, rfl⟩
      all_goals cases ev
      exact RK_ok (smShare_0 he g0) z (FC.refl _) (by decide) ko (by decide) ho rfl
    · rcases y with ⟨⟨n, y⟩ | ⟨n, e, he, rfl, y⟩, rfl⟩
      all_goals first | exact absurd n (by decide) | exact RK_bad (smE_n y) (by decide) z (FO.refl _) | exact RK_bad (smShare_2 he y) (by decide) z (FO.refl _)
    · rcases y with ⟨⟨n, y⟩ | ⟨n, e, he, rfl, y⟩, rfl⟩
      all_goals first | exact absurd n (by decide) | exact RK_bad (smE_n y) (by decide) z (FO.refl _) | exact RK_bad (smShare_2 he y) (by decide) z (FO.refl _)
theorem k_meanRun {E : EV} {h : AH} {q o : Nat} {G : GQ} {s : SQ} (z : RC h q G s) (hI : INV s) (ko : qK h o = 17) (ho : own h o = .ref 11) : CtW E yL_meanRun cL_meanRun 3 (some .int) [(0, 7, 10, 109)] 8 3 [.ref q, .ref o] h (fun v h1 => RK 1700 lgd h h1 q o (smMean s) v) := by
  have w := hI.ws
  have hl : ∀ e, e ≤ 1 → (eX (zE s e)).length ≤ 200 := fun e he => (w.1 e he).1.1.1
  refine (l_meanRun z.k (x_meanRun z w (by rw [← hop_len]; exact hI.hH)) (fun v h1 y => ?_) (fun N h1 y => ?_)).mono (fun v h1 y => ?_)
  · rcases y with ⟨⟨g0, ev⟩, rfl⟩
    all_goals exact ⟨⟨_, ev⟩, Fr.K (FC.refl _) ko (by decide)⟩
  · rcases y with ⟨n, y, rfl⟩
    all_goals first | exact n
  · obtain ⟨c9, rfl, ⟨rfl, u, h0, r, rfl⟩ | ⟨rfl, y⟩⟩ := y
    · rcases r with ⟨⟨g0, ev⟩, rfl⟩
      all_goals cases ev
      exact RK_ok (smMean_0 g0) z (FC.refl _) (by decide) ko (by decide) ho rfl
    · rcases y with ⟨n, y, rfl⟩
      all_goals first | exact absurd n (by decide) | exact RK_bad (smMean_1 y) (by decide) z (FO.refl _)
theorem k_textNumber {E : EV} {h : AH} {q o : Nat} {G : GQ} {s : SQ} (z : RC h q G s) (hI : INV s) (ko : qK h o = 16) (ho : own h o = .ref 11) {a1 : Int32} : CtW E yL_textNumber cL_textNumber 4 (some .int) [(0, 8, 11, 13)] 8 3 [.ref q, .int a1, .ref o] h (fun v h1 => RK 1600 lgv h h1 q o (smG (fun e => .long (num (zT s) (eX (zE s e)) 7)) a1 s) v) := by
  have w := hI.ws
  have hl : ∀ e, e ≤ 1 → (eX (zE s e)).length ≤ 200 := fun e he => (w.1 e he).1.1.1
  refine (l_textNumber z.k (x_textNumber z w) (fun v h1 y => ?_) (fun N h1 y => ?_)).mono (fun v h1 y => ?_)
  · rcases y with ⟨⟨e, he, rfl, ev⟩, rfl⟩
    all_goals exact ⟨⟨_, ev⟩, Fr.K (FC.refl _) ko (by decide)⟩
  · rcases y with ⟨n, y, rfl⟩
    all_goals first | exact n
  · obtain ⟨c9, rfl, ⟨rfl, u, h0, r, rfl⟩ | ⟨rfl, y⟩⟩ := y
    · rcases r with ⟨⟨e, he, rfl, ev⟩, rfl⟩
      all_goals cases ev
      exact RK_ok (smG_0 he) z (FC.refl _) (by decide) ko (by decide) ho rfl
    · rcases y with ⟨n, y, rfl⟩
      all_goals first | exact absurd n (by decide) | exact RK_bad (smE_n y) (by decide) z (FO.refl _)
