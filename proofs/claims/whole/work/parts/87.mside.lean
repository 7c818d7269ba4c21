/-! THE MODEL'S SIDE -/
def NK {α : Type} (con : α → Value) (h h1 : AH) (q : Nat) (A : Nat → Nat) (S : R3) (v : Option Value) : Prop := MR h h1 q A S.2.2 S.1 ∧ ∃ u : α, v = some (con u) ∧ (S.1 = 0 → con u = S.2.1)
theorem NK_ok {α : Type} {con : α → Value} {h h1 : AH} {q : Nat} {A : Nat → Nat} {S : R3} {u : α} {s' : SQ} (e : S = (0, con u, s')) (m : MR h h1 q A s' 0) : NK con h h1 q A S (some (con u)) := by
  subst e
  exact ⟨m, u, rfl, fun _ => rfl⟩
theorem NK_bad {α : Type} {con : α → Value} {h h1 : AH} {q c : Nat} {A : Nat → Nat} {S : R3} {s : SQ} (e : S = (c, .null, s)) (hc : c ≠ 0) (m : MR h h1 q A s c) (u : α) : NK con h h1 q A S (some (con u)) := by
  subst e
  exact ⟨m, u, rfl, fun y => absurd y hc⟩
theorem n_insert {E : EV} {h : AH} {q : Nat} {A : Nat → Nat} {F : MS'} {s : SQ} (mp : MP h q A F) (rm : RM (zT s) F s) (hI : INV s) (hT : TOs s) (hC : ∀ y ∈ zL s, (zT s y).1 < 127 ∧ (zT s y).2 ≤ 1) {a1 a2 a3 : Int32} : Ct E yX9_insert cX9_insert 4 (some .int) 5 0 [.ref q, .int a1, .int a2, .int a3] h (fun v h1 => NK Value.int h h1 q A (smInsert a1 a2 a3 s) v) noX := by
  have w := hI.ws
  have hl : ∀ e, e ≤ 1 → (eX (zE s e)).length ≤ 200 := fun e he => (w.1 e he).1.1.1
  refine (y_insert mp rm hI).mono (fun v h1 y => ?_) (fun _ _ y => y)
  rcases y with ⟨e, i, c, he, rfl, rfl, rfl, hi, g1, g2, g3, g4, rfl, mr⟩ | ⟨y, ⟨u, rfl⟩, mr⟩ | ⟨e, he, rfl, y, ⟨u, rfl⟩, mr⟩ | ⟨e, he, rfl, y1, y2, y3, ⟨u, rfl⟩, mr⟩
  · exact NK_ok (smInsert_0 he (hl e he) hi g1 g2 g3 g4) mr
  · exact NK_bad (smE_n y) (by decide) mr u
  · exact NK_bad (smInsert_2 he y) (by decide) mr u
  · exact NK_bad (smInsert_3 he y1 y2 y3) (by decide) mr u
theorem n_delete {E : EV} {h : AH} {q : Nat} {A : Nat → Nat} {F : MS'} {s : SQ} (mp : MP h q A F) (rm : RM (zT s) F s) (hI : INV s) (hT : TOs s) (hC : ∀ y ∈ zL s, (zT s y).1 < 127 ∧ (zT s y).2 ≤ 1) {a1 a2 : Int32} : Ct E yX9_delete cX9_delete 4 (some .char) 5 0 [.ref q, .int a1, .int a2] h (fun v h1 => NK Value.int h h1 q A (smDelete a1 a2 s) v) noX := by
  have w := hI.ws
  have hl : ∀ e, e ≤ 1 → (eX (zE s e)).length ≤ 200 := fun e he => (w.1 e he).1.1.1
  refine (y_delete mp rm hI (fun y hy => (hC y hy).1)).mono (fun v h1 y => ?_) (fun _ _ y => y)
  rcases y with ⟨e, i, a, he, rfl, rfl, hy, g4, rfl, mr⟩ | ⟨y, ⟨u, rfl⟩, mr⟩ | ⟨e, he, rfl, y, ⟨u, rfl⟩, mr⟩ | ⟨e, he, rfl, y2, y3, ⟨u, rfl⟩, mr⟩
  · exact NK_ok (smDelete_0 he (hl e he) hy g4) mr
  · exact NK_bad (smE_n y) (by decide) mr u
  · exact NK_bad (smDelete_2 he (hl e he) y) (by decide) mr u
  · exact NK_bad (smDelete_3 he (hl e he) y2 y3) (by decide) mr u
theorem n_type {E : EV} {h : AH} {q : Nat} {A : Nat → Nat} {F : MS'} {s : SQ} (mp : MP h q A F) (rm : RM (zT s) F s) (hI : INV s) (hT : TOs s) (hC : ∀ y ∈ zL s, (zT s y).1 < 127 ∧ (zT s y).2 ≤ 1) {a1 a2 : Int32} : Ct E yX9_type cX9_type 3 (some .int) 5 0 [.ref q, .int a1, .int a2] h (fun v h1 => NK Value.int h h1 q A (smType a1 a2 s) v) noX := by
  have w := hI.ws
  have hl : ∀ e, e ≤ 1 → (eX (zE s e)).length ≤ 200 := fun e he => (w.1 e he).1.1.1
  refine (y_type mp rm hI).mono (fun v h1 y => ?_) (fun _ _ y => y)
  rcases y with ⟨e, c, he, rfl, rfl, g1, g2, g3, g4, rfl, mr⟩ | ⟨y, ⟨u, rfl⟩, mr⟩ | ⟨e, he, rfl, y, ⟨u, rfl⟩, mr⟩ | ⟨e, he, rfl, y2, y3, ⟨u, rfl⟩, mr⟩
  · exact NK_ok (smType_0 he g1 g2 g3 g4) mr
  · exact NK_bad (smE_n y) (by decide) mr u
  · exact NK_bad (smType_2 he y) (by decide) mr u
  · exact NK_bad (smType_3 he y2 y3) (by decide) mr u
theorem n_erase {E : EV} {h : AH} {q : Nat} {A : Nat → Nat} {F : MS'} {s : SQ} (mp : MP h q A F) (rm : RM (zT s) F s) (hI : INV s) (hT : TOs s) (hC : ∀ y ∈ zL s, (zT s y).1 < 127 ∧ (zT s y).2 ≤ 1) {a1 : Int32} : Ct E yX9_erase cX9_erase 3 (some .char) 5 0 [.ref q, .int a1] h (fun v h1 => NK Value.int h h1 q A (smErase a1 s) v) noX := by
  have w := hI.ws
  have hl : ∀ e, e ≤ 1 → (eX (zE s e)).length ≤ 200 := fun e he => (w.1 e he).1.1.1
  refine (y_erase mp rm hI (fun y hy => (hC y hy).1)).mono (fun v h1 y => ?_) (fun _ _ y => y)
  rcases y with ⟨e, a, he, rfl, g0, hy, g4, rfl, mr⟩ | ⟨y, ⟨u, rfl⟩, mr⟩ | ⟨e, he, rfl, y, ⟨u, rfl⟩, mr⟩ | ⟨e, he, rfl, y2, y3, ⟨u, rfl⟩, mr⟩
  · exact NK_ok (smErase_0 he g0 hy g4) mr
  · exact NK_bad (smE_n y) (by decide) mr u
  · exact NK_bad (smErase_2 he y) (by decide) mr u
  · exact NK_bad (smErase_3 he y2 y3) (by decide) mr u
theorem n_moveCursor {E : EV} {h : AH} {q : Nat} {A : Nat → Nat} {F : MS'} {s : SQ} (mp : MP h q A F) (rm : RM (zT s) F s) (hI : INV s) (hT : TOs s) (hC : ∀ y ∈ zL s, (zT s y).1 < 127 ∧ (zT s y).2 ≤ 1) {a1 a2 : Int32} : Ct E yX9_moveCursor cX9_moveCursor 4 (some .int) 3 0 [.ref q, .int a1, .int a2] h (fun v h1 => NK Value.int h h1 q A (smMove a1 a2 s) v) noX := by
  have w := hI.ws
  have hl : ∀ e, e ≤ 1 → (eX (zE s e)).length ≤ 200 := fun e he => (w.1 e he).1.1.1
  refine (y_moveCursor mp rm w hI.hH).mono (fun v h1 y => ?_) (fun _ _ y => y)
  rcases y with ⟨e, i, he, rfl, rfl, hi, rfl, mr⟩ | ⟨y, ⟨u, rfl⟩, mr⟩ | ⟨e, he, rfl, y, ⟨u, rfl⟩, mr⟩
  · exact NK_ok (smMove_0 he (hl e he) hi) mr
  · exact NK_bad (smE_n y) (by decide) mr u
  · exact NK_bad (smMove_2 he (fun t => y ⟨Int32.not_lt.mp t.1, t.2⟩)) (by decide) mr u
theorem n_undo {E : EV} {h : AH} {q : Nat} {A : Nat → Nat} {F : MS'} {s : SQ} (mp : MP h q A F) (rm : RM (zT s) F s) (hI : INV s) (hT : TOs s) (hC : ∀ y ∈ zL s, (zT s y).1 < 127 ∧ (zT s y).2 ≤ 1) {a1 : Int32} : Ct E yX9_undo cX9_undo 5 (some .boolean) 5 0 [.ref q, .int a1] h (fun v h1 => NK Value.int h h1 q A (smUndo a1 s) v) noX := by
  have w := hI.ws
  have hl : ∀ e, e ≤ 1 → (eX (zE s e)).length ≤ 200 := fun e he => (w.1 e he).1.1.1
  refine (y_undo mp rm hI).mono (fun v h1 y => ?_) (fun _ _ y => y)
  rcases y with ⟨e, n0, kk, he, rfl, hn, hk, ⟨k1, hf, rfl, mr⟩ | ⟨k1, i, hf, g4, rfl, mr⟩ | ⟨k0, rfl, g3, g4, mr⟩⟩ | ⟨y, ⟨u, rfl⟩, mr⟩ | ⟨e, he, rfl, y, ⟨u, rfl⟩, mr⟩ | ⟨e, n0, kk, he, rfl, hn, hk, ⟨k1, ⟨i, hf⟩, g4⟩ | ⟨k0, g4⟩, ⟨u, rfl⟩, mr⟩
  · exact NK_ok ((smUndo_k he hn hk).trans (by rw [if_pos k1, hf])) mr
  · exact NK_ok ((smUndo_k he hn hk).trans (by rw [if_pos k1, hf]; exact if_pos g4)) mr
  · exact NK_ok ((smUndo_k he hn hk).trans (by rw [if_neg (by omega), if_pos ⟨g3, g4⟩])) mr
  · exact NK_bad (smE_n y) (by decide) mr u
  · exact NK_bad (smUndo_2 he y) (by decide) mr u
  · exact NK_bad ((smUndo_k he hn hk).trans (by rw [if_pos k1, hf]; exact if_neg g4)) (by decide) mr u
  · exact NK_bad ((smUndo_k he hn hk).trans (by rw [if_neg (by omega), if_neg g4])) (by decide) mr u
theorem n_deliverUp {E : EV} {h : AH} {q : Nat} {A : Nat → Nat} {F : MS'} {s : SQ} (mp : MP h q A F) (rm : RM (zT s) F s) (hI : INV s) (hT : TOs s) (hC : ∀ y ∈ zL s, (zT s y).1 < 127 ∧ (zT s y).2 ≤ 1) {a1 : Int32} : Ct E yX9_deliverUp cX9_deliverUp 2 (some .int) 5 0 [.ref q, .int a1] h (fun v h1 => NK Value.int h h1 q A (smUp a1 s) v) noX := by
  have w := hI.ws
  have hl : ∀ e, e ≤ 1 → (eX (zE s e)).length ≤ 200 := fun e he => (w.1 e he).1.1.1
  refine (y_deliverUp mp rm hI hT).mono (fun v h1 y => ?_) (fun _ _ y => y)
  rcases y with ⟨e, m, he, rfl, hm, rfl, mr⟩ | ⟨y, ⟨u, rfl⟩, mr⟩ | ⟨e, he, rfl, y, ⟨u, rfl⟩, mr⟩
  · exact NK_ok (smUp_0 he hm) mr
  · exact NK_bad (smE_n y) (by decide) mr u
  · exact NK_bad (smUp_2 he y) (by decide) mr u
theorem n_deliverDown {E : EV} {h : AH} {q : Nat} {A : Nat → Nat} {F : MS'} {s : SQ} (mp : MP h q A F) (rm : RM (zT s) F s) (hI : INV s) (hT : TOs s) (hC : ∀ y ∈ zL s, (zT s y).1 < 127 ∧ (zT s y).2 ≤ 1) {a1 : Int32} : Ct E yX9_deliverDown cX9_deliverDown 2 (some .char) 5 0 [.ref q, .int a1] h (fun v h1 => NK Value.int h h1 q A (smDown a1 s) v) noX := by
  have w := hI.ws
  have hl : ∀ e, e ≤ 1 → (eX (zE s e)).length ≤ 200 := fun e he => (w.1 e he).1.1.1
  refine (y_deliverDown mp rm hI hT).mono (fun v h1 y => ?_) (fun _ _ y => y)
  rcases y with ⟨e, m, he, rfl, hm, rfl, mr⟩ | ⟨y, ⟨u, rfl⟩, mr⟩ | ⟨e, he, rfl, y, ⟨u, rfl⟩, mr⟩
  · exact NK_ok (smDown_0 he hm) mr
  · exact NK_bad (smE_n y) (by decide) mr u
  · exact NK_bad (smDown_2 he y) (by decide) mr u
theorem n_length {E : EV} {h : AH} {q : Nat} {A : Nat → Nat} {F : MS'} {s : SQ} (mp : MP h q A F) (rm : RM (zT s) F s) (hI : INV s) (hT : TOs s) (hC : ∀ y ∈ zL s, (zT s y).1 < 127 ∧ (zT s y).2 ≤ 1) {a1 : Int32} : Ct E yX9_length cX9_length 2 (some .int) 3 0 [.ref q, .int a1] h (fun v h1 => NK Value.int h h1 q A (smG (fun e => .int (nI ((eX (zE s e)).length))) a1 s) v) noX := by
  have w := hI.ws
  have hl : ∀ e, e ≤ 1 → (eX (zE s e)).length ≤ 200 := fun e he => (w.1 e he).1.1.1
  refine (y_length mp rm w hI.hH).mono (fun v h1 y => ?_) (fun _ _ y => y)
  rcases y with ⟨e, he, rfl, rfl, mr⟩ | ⟨y, ⟨u, rfl⟩, mr⟩
  · exact NK_ok (smG_0 he) mr
  · exact NK_bad (smE_n y) (by decide) mr u
theorem n_charAt {E : EV} {h : AH} {q : Nat} {A : Nat → Nat} {F : MS'} {s : SQ} (mp : MP h q A F) (rm : RM (zT s) F s) (hI : INV s) (hT : TOs s) (hC : ∀ y ∈ zL s, (zT s y).1 < 127 ∧ (zT s y).2 ≤ 1) {a1 a2 : Int32} : Ct E yX9_charAt cX9_charAt 4 (some .char) 4 0 [.ref q, .int a1, .int a2] h (fun v h1 => NK Value.int h h1 q A (smC (fun y => .int (nI (zT s y).1)) a1 a2 s) v) noX := by
  have w := hI.ws
  have hl : ∀ e, e ≤ 1 → (eX (zE s e)).length ≤ 200 := fun e he => (w.1 e he).1.1.1
  refine (y_charAt mp rm w hI.hH (fun y hy => (hC y hy).1)).mono (fun v h1 y => ?_) (fun _ _ y => y)
  rcases y with ⟨⟨e, i, a, he, rfl, rfl, hy, rfl, mr⟩ | ⟨y, ⟨u, rfl⟩, mr⟩ | ⟨e, he, rfl, y, ⟨u, rfl⟩, mr⟩, -⟩
  · exact NK_ok (smC_0 he (hl e he) hy) mr
  · exact NK_bad (smE_n y) (by decide) mr u
  · exact NK_bad (smC_2 he (hl e he) y) (by decide) mr u
theorem n_ownerAt {E : EV} {h : AH} {q : Nat} {A : Nat → Nat} {F : MS'} {s : SQ} (mp : MP h q A F) (rm : RM (zT s) F s) (hI : INV s) (hT : TOs s) (hC : ∀ y ∈ zL s, (zT s y).1 < 127 ∧ (zT s y).2 ≤ 1) {a1 a2 : Int32} : Ct E yX9_ownerAt cX9_ownerAt 4 (some .int) 4 0 [.ref q, .int a1, .int a2] h (fun v h1 => NK Value.int h h1 q A (smC (fun y => .int (nI (zT s y).2)) a1 a2 s) v) noX := by
  have w := hI.ws
  have hl : ∀ e, e ≤ 1 → (eX (zE s e)).length ≤ 200 := fun e he => (w.1 e he).1.1.1
  refine (y_ownerAt mp rm w hI.hH (fun y hy => (hC y hy).1)).mono (fun v h1 y => ?_) (fun _ _ y => y)
  rcases y with ⟨e, i, a, he, rfl, rfl, hy, rfl, mr⟩ | ⟨y, ⟨u, rfl⟩, mr⟩ | ⟨e, he, rfl, y, ⟨u, rfl⟩, mr⟩
  · exact NK_ok (smC_0 he (hl e he) hy) mr
  · exact NK_bad (smE_n y) (by decide) mr u
  · exact NK_bad (smC_2 he (hl e he) y) (by decide) mr u
theorem n_lengthByHistory {E : EV} {h : AH} {q : Nat} {A : Nat → Nat} {F : MS'} {s : SQ} (mp : MP h q A F) (rm : RM (zT s) F s) (hI : INV s) (hT : TOs s) (hC : ∀ y ∈ zL s, (zT s y).1 < 127 ∧ (zT s y).2 ≤ 1) {a1 : Int32} : Ct E yX9_lengthByHistory cX9_lengthByHistory 2 (some .int) 4 0 [.ref q, .int a1] h (fun v h1 => NK Value.int h h1 q A (smG (fun e => .int (nI ((eX (zE s e)).length))) a1 s) v) noX := by
  have w := hI.ws
  have hl : ∀ e, e ≤ 1 → (eX (zE s e)).length ≤ 200 := fun e he => (w.1 e he).1.1.1
  refine (y_lengthByHistory mp rm w hI.hH).mono (fun v h1 y => ?_) (fun _ _ y => y)
  rcases y with ⟨e, he, rfl, rfl, mr⟩ | ⟨y, ⟨u, rfl⟩, mr⟩
  · exact NK_ok (smG_0 he) mr
  · exact NK_bad (smE_n y) (by decide) mr u
theorem n_charByHistory {E : EV} {h : AH} {q : Nat} {A : Nat → Nat} {F : MS'} {s : SQ} (mp : MP h q A F) (rm : RM (zT s) F s) (hI : INV s) (hT : TOs s) (hC : ∀ y ∈ zL s, (zT s y).1 < 127 ∧ (zT s y).2 ≤ 1) {a1 a2 : Int32} : Ct E yX9_charByHistory cX9_charByHistory 3 (some .char) 5 0 [.ref q, .int a1, .int a2] h (fun v h1 => NK Value.int h h1 q A (smC (fun y => .int (nI (zT s y).1)) a1 a2 s) v) noX := by
  have w := hI.ws
  have hl : ∀ e, e ≤ 1 → (eX (zE s e)).length ≤ 200 := fun e he => (w.1 e he).1.1.1
  refine (y_charByHistory mp rm w hI.hH (fun y hy => (hC y hy).1)).mono (fun v h1 y => ?_) (fun _ _ y => y)
  rcases y with ⟨e, i, a, he, rfl, rfl, hy, rfl, mr⟩ | ⟨y, ⟨u, rfl⟩, mr⟩ | ⟨e, he, rfl, y, ⟨u, rfl⟩, mr⟩
  · exact NK_ok (smC_0 he (hl e he) hy) mr
  · exact NK_bad (smE_n y) (by decide) mr u
  · exact NK_bad (smC_2 he (hl e he) y) (by decide) mr u
theorem n_centreChar {E : EV} {h : AH} {q : Nat} {A : Nat → Nat} {F : MS'} {s : SQ} (mp : MP h q A F) (rm : RM (zT s) F s) (hI : INV s) (hT : TOs s) (hC : ∀ y ∈ zL s, (zT s y).1 < 127 ∧ (zT s y).2 ≤ 1) {a1 : Int32} : Ct E yX9_centreChar cX9_centreChar 2 (some .char) 4 0 [.ref q, .int a1] h (fun v h1 => NK Value.int h h1 q A (smCC a1 s) v) noX := by
  have w := hI.ws
  have hl : ∀ e, e ≤ 1 → (eX (zE s e)).length ≤ 200 := fun e he => (w.1 e he).1.1.1
  refine (y_centreChar mp rm w hI.hH (fun y hy => (hC y hy).1)).mono (fun v h1 y => ?_) (fun _ _ y => y)
  rcases y with ⟨i, a, rfl, hy, rfl, mr⟩ | ⟨y, ⟨u, rfl⟩, mr⟩
  · exact NK_ok (smP_i hy w.2.1.1) mr
  · exact NK_bad (smP_n y w.2.1.1) (by decide) mr u
theorem n_cursor {E : EV} {h : AH} {q : Nat} {A : Nat → Nat} {F : MS'} {s : SQ} (mp : MP h q A F) (rm : RM (zT s) F s) (hI : INV s) (hT : TOs s) (hC : ∀ y ∈ zL s, (zT s y).1 < 127 ∧ (zT s y).2 ≤ 1) {a1 : Int32} : Ct E yX9_cursor cX9_cursor 2 (some .int) 3 0 [.ref q, .int a1] h (fun v h1 => NK Value.int h h1 q A (smG (fun e => .int (nI (eC (zE s e)))) a1 s) v) noX := by
  have w := hI.ws
  have hl : ∀ e, e ≤ 1 → (eX (zE s e)).length ≤ 200 := fun e he => (w.1 e he).1.1.1
  refine (y_cursor mp rm w hI.hH).mono (fun v h1 y => ?_) (fun _ _ y => y)
  rcases y with ⟨e, he, rfl, rfl, mr⟩ | ⟨y, ⟨u, rfl⟩, mr⟩
  · exact NK_ok (smG_0 he) mr
  · exact NK_bad (smE_n y) (by decide) mr u
theorem n_mark {E : EV} {h : AH} {q : Nat} {A : Nat → Nat} {F : MS'} {s : SQ} (mp : MP h q A F) (rm : RM (zT s) F s) (hI : INV s) (hT : TOs s) (hC : ∀ y ∈ zL s, (zT s y).1 < 127 ∧ (zT s y).2 ≤ 1) {a1 : Int32} : Ct E yX9_mark cX9_mark 2 (some .int) 3 0 [.ref q, .int a1] h (fun v h1 => NK Value.int h h1 q A (smG (fun e => .int (nI (eMk (zE s e)))) a1 s) v) noX := by
  have w := hI.ws
  have hl : ∀ e, e ≤ 1 → (eX (zE s e)).length ≤ 200 := fun e he => (w.1 e he).1.1.1
  refine (y_mark mp rm w hI.hH).mono (fun v h1 y => ?_) (fun _ _ y => y)
  rcases y with ⟨e, he, rfl, rfl, mr⟩ | ⟨y, ⟨u, rfl⟩, mr⟩
  · exact NK_ok (smG_0 he) mr
  · exact NK_bad (smE_n y) (by decide) mr u
theorem n_revision {E : EV} {h : AH} {q : Nat} {A : Nat → Nat} {F : MS'} {s : SQ} (mp : MP h q A F) (rm : RM (zT s) F s) (hI : INV s) (hT : TOs s) (hC : ∀ y ∈ zL s, (zT s y).1 < 127 ∧ (zT s y).2 ≤ 1) {a1 : Int32} : Ct E yX9_revision cX9_revision 2 (some .int) 3 0 [.ref q, .int a1] h (fun v h1 => NK Value.int h h1 q A (smG (fun e => .int (nI (eR (zE s e)))) a1 s) v) noX := by
  have w := hI.ws
  have hl : ∀ e, e ≤ 1 → (eX (zE s e)).length ≤ 200 := fun e he => (w.1 e he).1.1.1
  refine (y_revision mp rm w hI.hH).mono (fun v h1 y => ?_) (fun _ _ y => y)
  rcases y with ⟨e, he, rfl, rfl, mr⟩ | ⟨y, ⟨u, rfl⟩, mr⟩
  · exact NK_ok (smG_0 he) mr
  · exact NK_bad (smE_n y) (by decide) mr u
theorem n_sent {E : EV} {h : AH} {q : Nat} {A : Nat → Nat} {F : MS'} {s : SQ} (mp : MP h q A F) (rm : RM (zT s) F s) (hI : INV s) (hT : TOs s) (hC : ∀ y ∈ zL s, (zT s y).1 < 127 ∧ (zT s y).2 ≤ 1) {a1 : Int32} : Ct E yX9_sent cX9_sent 2 (some .int) 3 0 [.ref q, .int a1] h (fun v h1 => NK Value.int h h1 q A (smG (fun e => .int (nI ((eS (zE s e)).length))) a1 s) v) noX := by
  have w := hI.ws
  have hl : ∀ e, e ≤ 1 → (eX (zE s e)).length ≤ 200 := fun e he => (w.1 e he).1.1.1
  refine (y_sent mp rm w hI.hH).mono (fun v h1 y => ?_) (fun _ _ y => y)
  rcases y with ⟨e, he, rfl, rfl, mr⟩ | ⟨y, ⟨u, rfl⟩, mr⟩
  · exact NK_ok (smG_0 he) mr
  · exact NK_bad (smE_n y) (by decide) mr u
theorem n_waiting {E : EV} {h : AH} {q : Nat} {A : Nat → Nat} {F : MS'} {s : SQ} (mp : MP h q A F) (rm : RM (zT s) F s) (hI : INV s) (hT : TOs s) (hC : ∀ y ∈ zL s, (zT s y).1 < 127 ∧ (zT s y).2 ≤ 1) {a1 : Int32} : Ct E yX9_waiting cX9_waiting 2 (some .int) 3 0 [.ref q, .int a1] h (fun v h1 => NK Value.int h h1 q A (smG (fun e => .int (nI ((eW (zE s e)).length))) a1 s) v) noX := by
  have w := hI.ws
  have hl : ∀ e, e ≤ 1 → (eX (zE s e)).length ≤ 200 := fun e he => (w.1 e he).1.1.1
  refine (y_waiting mp rm w hI.hH).mono (fun v h1 y => ?_) (fun _ _ y => y)
  rcases y with ⟨e, he, rfl, rfl, mr⟩ | ⟨y, ⟨u, rfl⟩, mr⟩
  · exact NK_ok (smG_0 he) mr
  · exact NK_bad (smE_n y) (by decide) mr u
theorem n_runs {E : EV} {h : AH} {q : Nat} {A : Nat → Nat} {F : MS'} {s : SQ} (mp : MP h q A F) (rm : RM (zT s) F s) (hI : INV s) (hT : TOs s) (hC : ∀ y ∈ zL s, (zT s y).1 < 127 ∧ (zT s y).2 ≤ 1) {a1 : Int32} : Ct E yX9_runs cX9_runs 4 (some .int) 4 0 [.ref q, .int a1] h (fun v h1 => NK Value.int h h1 q A (smG (fun e => .int (nI (crn (eW (zE s e))))) a1 s) v) noX := by
  have w := hI.ws
  have hl : ∀ e, e ≤ 1 → (eX (zE s e)).length ≤ 200 := fun e he => (w.1 e he).1.1.1
  refine (y_runs mp rm w hI.hH (fun e he => (hI.1.1 e he).2.2.1)).mono (fun v h1 y => ?_) (fun _ _ y => y)
  rcases y with ⟨e, he, rfl, rfl, mr⟩ | ⟨y, ⟨u, rfl⟩, mr⟩
  · exact NK_ok (smG_0 he) mr
  · exact NK_bad (smE_n y) (by decide) mr u
theorem n_up {E : EV} {h : AH} {q : Nat} {A : Nat → Nat} {F : MS'} {s : SQ} (mp : MP h q A F) (rm : RM (zT s) F s) (hI : INV s) (hT : TOs s) (hC : ∀ y ∈ zL s, (zT s y).1 < 127 ∧ (zT s y).2 ≤ 1) {a1 : Int32} : Ct E yX9_up cX9_up 2 (some .int) 3 0 [.ref q, .int a1] h (fun v h1 => NK Value.int h h1 q A (smG (fun e => .int (nI ((zU s e).length))) a1 s) v) noX := by
  have w := hI.ws
  have hl : ∀ e, e ≤ 1 → (eX (zE s e)).length ≤ 200 := fun e he => (w.1 e he).1.1.1
  refine (y_up mp rm w hI.hH).mono (fun v h1 y => ?_) (fun _ _ y => y)
  rcases y with ⟨e, he, rfl, rfl, mr⟩ | ⟨y, ⟨u, rfl⟩, mr⟩
  · exact NK_ok (smG_0 he) mr
  · exact NK_bad (smE_n y) (by decide) mr u
theorem n_down {E : EV} {h : AH} {q : Nat} {A : Nat → Nat} {F : MS'} {s : SQ} (mp : MP h q A F) (rm : RM (zT s) F s) (hI : INV s) (hT : TOs s) (hC : ∀ y ∈ zL s, (zT s y).1 < 127 ∧ (zT s y).2 ≤ 1) {a1 : Int32} : Ct E yX9_down cX9_down 2 (some .int) 3 0 [.ref q, .int a1] h (fun v h1 => NK Value.int h h1 q A (smG (fun e => .int (nI ((zH s).length - eR (zE s e)))) a1 s) v) noX := by
  have w := hI.ws
  have hl : ∀ e, e ≤ 1 → (eX (zE s e)).length ≤ 200 := fun e he => (w.1 e he).1.1.1
  refine (y_down mp rm w hI.hH).mono (fun v h1 y => ?_) (fun _ _ y => y)
  rcases y with ⟨e, he, rfl, rfl, mr⟩ | ⟨y, ⟨u, rfl⟩, mr⟩
  · exact NK_ok (smG_0 he) mr
  · exact NK_bad (smE_n y) (by decide) mr u
theorem n_kept {E : EV} {h : AH} {q : Nat} {A : Nat → Nat} {F : MS'} {s : SQ} (mp : MP h q A F) (rm : RM (zT s) F s) (hI : INV s) (hT : TOs s) (hC : ∀ y ∈ zL s, (zT s y).1 < 127 ∧ (zT s y).2 ≤ 1) {a1 : Int32} : Ct E yX9_kept cX9_kept 2 (some .int) 3 0 [.ref q, .int a1] h (fun v h1 => NK Value.int h h1 q A (smG (fun e => .int (nI ((eK (zE s e)).length))) a1 s) v) noX := by
  have w := hI.ws
  have hl : ∀ e, e ≤ 1 → (eX (zE s e)).length ≤ 200 := fun e he => (w.1 e he).1.1.1
  refine (y_kept mp rm w hI.hH).mono (fun v h1 y => ?_) (fun _ _ y => y)
  rcases y with ⟨e, he, rfl, rfl, mr⟩ | ⟨y, ⟨u, rfl⟩, mr⟩
  · exact NK_ok (smG_0 he) mr
  · exact NK_bad (smE_n y) (by decide) mr u
theorem n_historyEnd {E : EV} {h : AH} {q : Nat} {A : Nat → Nat} {F : MS'} {s : SQ} (mp : MP h q A F) (rm : RM (zT s) F s) (hI : INV s) (hT : TOs s) (hC : ∀ y ∈ zL s, (zT s y).1 < 127 ∧ (zT s y).2 ≤ 1) {a1 : Int32} : Ct E yX9_historyEnd cX9_historyEnd 2 (some .int) 4 0 [.ref q, .int a1] h (fun v h1 => NK Value.int h h1 q A (smH (fun m => .int (nI m.1)) a1 s) v) noX := by
  have w := hI.ws
  have hl : ∀ e, e ≤ 1 → (eX (zE s e)).length ≤ 200 := fun e he => (w.1 e he).1.1.1
  refine (y_historyEnd mp rm w hI.hH).mono (fun v h1 y => ?_) (fun _ _ y => y)
  rcases y with ⟨i, m, rfl, hy, rfl, mr⟩ | ⟨y, ⟨u, rfl⟩, mr⟩
  · exact NK_ok (smP_i hy w.2.2.1.1) mr
  · exact NK_bad (smP_n y w.2.2.1.1) (by decide) mr u
theorem n_historySize {E : EV} {h : AH} {q : Nat} {A : Nat → Nat} {F : MS'} {s : SQ} (mp : MP h q A F) (rm : RM (zT s) F s) (hI : INV s) (hT : TOs s) (hC : ∀ y ∈ zL s, (zT s y).1 < 127 ∧ (zT s y).2 ≤ 1) {a1 : Int32} : Ct E yX9_historySize cX9_historySize 2 (some .int) 4 0 [.ref q, .int a1] h (fun v h1 => NK Value.int h h1 q A (smH (fun m => .int (nI m.2.2.length)) a1 s) v) noX := by
  have w := hI.ws
  have hl : ∀ e, e ≤ 1 → (eX (zE s e)).length ≤ 200 := fun e he => (w.1 e he).1.1.1
  refine (y_historySize mp rm w hI.hH).mono (fun v h1 y => ?_) (fun _ _ y => y)
  rcases y with ⟨i, m, rfl, hy, rfl, mr⟩ | ⟨y, ⟨u, rfl⟩, mr⟩
  · exact NK_ok (smP_i hy w.2.2.1.1) mr
  · exact NK_bad (smP_n y w.2.2.1.1) (by decide) mr u
theorem n_historyKind {E : EV} {h : AH} {q : Nat} {A : Nat → Nat} {F : MS'} {s : SQ} (mp : MP h q A F) (rm : RM (zT s) F s) (hI : INV s) (hT : TOs s) (hC : ∀ y ∈ zL s, (zT s y).1 < 127 ∧ (zT s y).2 ≤ 1) {a1 a2 : Int32} : Ct E yX9_historyKind cX9_historyKind 5 (some .char) 5 0 [.ref q, .int a1, .int a2] h (fun v h1 => NK Value.int h h1 q A (smHo (fun o => .int (kc o.1)) a1 a2 s) v) noX := by
  have w := hI.ws
  have hl : ∀ e, e ≤ 1 → (eX (zE s e)).length ≤ 200 := fun e he => (w.1 e he).1.1.1
  refine (y_historyKind mp rm w hI.hH).mono (fun v h1 y => ?_) (fun _ _ y => y)
  rcases y with ⟨i, j, m, o2, rfl, rfl, hm, hy, rfl, mr⟩ | ⟨y, ⟨u, rfl⟩, mr⟩ | ⟨i, m, rfl, hm, y, ⟨u, rfl⟩, mr⟩
  · exact NK_ok (smHo_0 w hm hy) mr
  · exact NK_bad (smP_n y w.2.2.1.1) (by decide) mr u
  · exact NK_bad (smHo_2 w hm y) (by decide) mr u
theorem n_historyPosition {E : EV} {h : AH} {q : Nat} {A : Nat → Nat} {F : MS'} {s : SQ} (mp : MP h q A F) (rm : RM (zT s) F s) (hI : INV s) (hT : TOs s) (hC : ∀ y ∈ zL s, (zT s y).1 < 127 ∧ (zT s y).2 ≤ 1) {a1 a2 : Int32} : Ct E yX9_historyPosition cX9_historyPosition 5 (some .int) 5 0 [.ref q, .int a1, .int a2] h (fun v h1 => NK Value.int h h1 q A (smHo (fun o => .int (ps o.1 o.2.1)) a1 a2 s) v) noX := by
  have w := hI.ws
  have hl : ∀ e, e ≤ 1 → (eX (zE s e)).length ≤ 200 := fun e he => (w.1 e he).1.1.1
  refine (y_historyPosition mp rm w hI.hH).mono (fun v h1 y => ?_) (fun _ _ y => y)
  rcases y with ⟨i, j, m, o2, rfl, rfl, hm, hy, rfl, mr⟩ | ⟨y, ⟨u, rfl⟩, mr⟩ | ⟨i, m, rfl, hm, y, ⟨u, rfl⟩, mr⟩
  · exact NK_ok (smHo_0 w hm hy) mr
  · exact NK_bad (smP_n y w.2.2.1.1) (by decide) mr u
  · exact NK_bad (smHo_2 w hm y) (by decide) mr u
theorem n_ownShare {E : EV} {h : AH} {q : Nat} {A : Nat → Nat} {F : MS'} {s : SQ} (mp : MP h q A F) (rm : RM (zT s) F s) (hI : INV s) (hT : TOs s) (hC : ∀ y ∈ zL s, (zT s y).1 < 127 ∧ (zT s y).2 ≤ 1) {a1 : Int32} : Ct E yX9_ownShare cX9_ownShare 4 (some .float) 3 0 [.ref q, .int a1] h (fun v h1 => NK Value.float h h1 q A (smShare a1 s) v) noX := by
  have w := hI.ws
  have hl : ∀ e, e ≤ 1 → (eX (zE s e)).length ≤ 200 := fun e he => (w.1 e he).1.1.1
  refine (y_ownShare mp rm w hI.hH hC).mono (fun v h1 y => ?_) (fun _ _ y => y)
  rcases y with ⟨e, he, rfl, g0, rfl, mr⟩ | ⟨y, ⟨u, rfl⟩, mr⟩ | ⟨e, he, rfl, y, ⟨u, rfl⟩, mr⟩
  · exact NK_ok (smShare_0 he g0) mr
  · exact NK_bad (smE_n y) (by decide) mr u
  · exact NK_bad (smShare_2 he y) (by decide) mr u
theorem n_meanRun {E : EV} {h : AH} {q : Nat} {A : Nat → Nat} {F : MS'} {s : SQ} (mp : MP h q A F) (rm : RM (zT s) F s) (hI : INV s) (hT : TOs s) (hC : ∀ y ∈ zL s, (zT s y).1 < 127 ∧ (zT s y).2 ≤ 1) : Ct E yX9_meanRun cX9_meanRun 1 (some .double) 3 0 [.ref q] h (fun v h1 => NK Value.double h h1 q A (smMean s) v) noX := by
  have w := hI.ws
  have hl : ∀ e, e ≤ 1 → (eX (zE s e)).length ≤ 200 := fun e he => (w.1 e he).1.1.1
  refine (y_meanRun mp rm w hI.hH).mono (fun v h1 y => ?_) (fun _ _ y => y)
  rcases y with ⟨g0, rfl, mr⟩ | ⟨y, ⟨u, rfl⟩, mr⟩
  · exact NK_ok (smMean_0 g0) mr
  · exact NK_bad (smMean_1 y) (by decide) mr u
theorem n_textNumber {E : EV} {h : AH} {q : Nat} {A : Nat → Nat} {F : MS'} {s : SQ} (mp : MP h q A F) (rm : RM (zT s) F s) (hI : INV s) (hT : TOs s) (hC : ∀ y ∈ zL s, (zT s y).1 < 127 ∧ (zT s y).2 ≤ 1) {a1 : Int32} : Ct E yX9_textNumber cX9_textNumber 5 (some .long) 3 0 [.ref q, .int a1] h (fun v h1 => NK Value.long h h1 q A (smG (fun e => .long (num (zT s) (eX (zE s e)) 7)) a1 s) v) noX := by
  have w := hI.ws
  have hl : ∀ e, e ≤ 1 → (eX (zE s e)).length ≤ 200 := fun e he => (w.1 e he).1.1.1
  refine (y_textNumber mp rm w hI.hH hC).mono (fun v h1 y => ?_) (fun _ _ y => y)
  rcases y with ⟨e, he, rfl, rfl, mr⟩ | ⟨y, ⟨u, rfl⟩, mr⟩
  · exact NK_ok (smG_0 he) mr
  · exact NK_bad (smE_n y) (by decide) mr u
