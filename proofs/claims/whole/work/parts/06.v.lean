
/-! THE ABSTRACT HEAP: kinds of addresses; fields by number (100 * class + place), then by address; lists and their room; arrays of ints -/
abbrev AH : Type := (Nat → Nat) × (Nat → Nat → Value) × (Nat → List Nat) × (Nat → Nat) × (Nat → List Int32)
def qK (h : AH) : Nat → Nat := h.1
def qF (h : AH) : Nat → Nat → Value := h.2.1
def qL (h : AH) : Nat → List Nat := h.2.2.1
def qC (h : AH) : Nat → Nat := h.2.2.2.1
def qI (h : AH) : Nat → List Int32 := h.2.2.2.2
def sF (h : AH) (f a : Nat) (v : Value) : AH := (h.1, fun g b => if g = f ∧ b = a then v else h.2.1 g b, h.2.2)
def sI (h : AH) (a : Nat) (x : List Int32) : AH := (h.1, h.2.1, h.2.2.1, h.2.2.2.1, fun b => if b = a then x else h.2.2.2.2 b)
def sL (h : AH) (a : Nat) (x : List Nat) (c : Nat) : AH := (h.1, h.2.1, (fun b => if b = a then x else h.2.2.1 b), (fun b => if b = a then c else h.2.2.2.1 b), h.2.2.2.2)
def sK (h : AH) (a k : Nat) : AH := (fun b => if b = a then k else h.1 b, h.2)
/-- the value that a field is born with -/
def dfv (f : Nat) : Value := if f ∈ [200, 207, 208, 209, 300, 302, 400, 401, 500, 501, 600, 602, 603, 805, 900, 926, 927, 928, 1000, 1002] then .int 0 else .null
def nO (h : AH) (q k : Nat) : AH := (fun b => if b = q then k else h.1 b, fun g b => if b = q then dfv g else h.2.1 g b, h.2.2)
theorem qK_sF (h : AH) (f a : Nat) (v : Value) : qK (sF h f a v) = qK h := rfl
theorem qL_sF (h : AH) (f a : Nat) (v : Value) : qL (sF h f a v) = qL h := rfl
theorem qC_sF (h : AH) (f a : Nat) (v : Value) : qC (sF h f a v) = qC h := rfl
theorem qI_sF (h : AH) (f a : Nat) (v : Value) : qI (sF h f a v) = qI h := rfl
theorem qF_sF (h : AH) (f a : Nat) (v : Value) (g b : Nat) : qF (sF h f a v) g b = if g = f ∧ b = a then v else qF h g b := rfl
theorem qK_sI (h : AH) (a : Nat) (x : List Int32) : qK (sI h a x) = qK h := rfl
theorem qF_sI (h : AH) (a : Nat) (x : List Int32) : qF (sI h a x) = qF h := rfl
theorem qL_sI (h : AH) (a : Nat) (x : List Int32) : qL (sI h a x) = qL h := rfl
theorem qC_sI (h : AH) (a : Nat) (x : List Int32) : qC (sI h a x) = qC h := rfl
theorem qI_sI (h : AH) (a : Nat) (x : List Int32) (b : Nat) : qI (sI h a x) b = if b = a then x else qI h b := rfl
theorem qK_sL (h : AH) (a : Nat) (x : List Nat) (c : Nat) : qK (sL h a x c) = qK h := rfl
theorem qF_sL (h : AH) (a : Nat) (x : List Nat) (c : Nat) : qF (sL h a x c) = qF h := rfl
theorem qI_sL (h : AH) (a : Nat) (x : List Nat) (c : Nat) : qI (sL h a x c) = qI h := rfl
theorem qL_sL (h : AH) (a : Nat) (x : List Nat) (c b : Nat) : qL (sL h a x c) b = if b = a then x else qL h b := rfl
theorem qC_sL (h : AH) (a : Nat) (x : List Nat) (c b : Nat) : qC (sL h a x c) b = if b = a then c else qC h b := rfl
theorem qK_sK (h : AH) (a k b : Nat) : qK (sK h a k) b = if b = a then k else qK h b := rfl
theorem qF_sK (h : AH) (a k : Nat) : qF (sK h a k) = qF h := rfl
theorem qL_sK (h : AH) (a k : Nat) : qL (sK h a k) = qL h := rfl
theorem qC_sK (h : AH) (a k : Nat) : qC (sK h a k) = qC h := rfl
theorem qI_sK (h : AH) (a k : Nat) : qI (sK h a k) = qI h := rfl
theorem qK_nO (h : AH) (q k b : Nat) : qK (nO h q k) b = if b = q then k else qK h b := rfl
theorem qF_nO (h : AH) (q k g b : Nat) : qF (nO h q k) g b = if b = q then dfv g else qF h g b := rfl
theorem qL_nO (h : AH) (q k : Nat) : qL (nO h q k) = qL h := rfl
theorem qC_nO (h : AH) (q k : Nat) : qC (nO h q k) = qC h := rfl
theorem qI_nO (h : AH) (q k : Nat) : qI (nO h q k) = qI h := rfl
/-! WORDS -/
def WS : List Cond := lw_tbl.filter goodWord
theorem wsm {w : Cond} (i : Nat) (h : tables_1[i]? = some w) (g : goodWord w = true) : w ∈ WS := List.mem_filter.mpr ⟨List.mem_append_right _ (List.mem_of_getElem? h), g⟩
theorem wsp {w : Cond} (i : Nat) (h : (k2_sels lw_privs)[i]? = some w) (g : goodWord w = true) : w ∈ WS := List.mem_filter.mpr ⟨List.mem_append_left _ (List.mem_of_getElem? h), g⟩
/-- words that the tables decide and that aren't good -/
def nestW : Cond → Bool
  | .castable .. => true
  | .declares .. => true
  | .methodLinkNest .. => true
  | _ => false
def WN : List Cond := tables_1.filter nestW
theorem wnm {w : Cond} (i : Nat) (h : tables_1[i]? = some w) (g : nestW w = true) : w ∈ WN := List.mem_filter.mpr ⟨List.mem_of_getElem? h, g⟩
theorem wn_warm {w : Cond} (hw : w ∈ WN) {s U : State} (hW : s.WarmedH U.vm) (h : va_Nw w s) : va_Nw w U := by
  have hg := (List.mem_filter.mp hw).2
  cases w <;> first | exact va_Nw.warmC hW h | exact va_Nw.warmD hW h | exact va_Nw.warmM hW h | (simp [nestW] at hg)
theorem wn_same {w : Cond} (hw : w ∈ WN) {s U : State} (hW : s.vm = U.vm) (h : va_Nw w s) : va_Nw w U := by
  have hg := (List.mem_filter.mp hw).2
  cases w <;> first | exact va_Nw.same rfl hW h | (simp [nestW] at hg)
/-! THE ENVIRONMENT: numbers of classes and slots, of array classes; the empty array of lists; where the law's heap begins -/
abbrev EV : Type := va_G × (Nat → ClassId) × Nat × Nat × Nat
abbrev eD (E : EV) : va_G := E.1
abbrev eA (E : EV) : Nat → ClassId := E.2.1
abbrev eZ (E : EV) : Nat := E.2.2.1
abbrev eN (E : EV) : Nat := E.2.2.2.1
/-- the class object of rows of objects -/
abbrev eM (E : EV) : Nat := E.2.2.2.2
def A0 (E : EV) : Nat → Prop := fun q => eN E ≤ q
abbrev kcl : List vw_C := [(RX0, TX0, 2), (RX1, TX1, 2), (RX2, TX2, 10), (RX3, TX3, 3), (RX4, TX4, 2), (RX5, TX5, 3), (RX6, TX6, 4), (RX7, TX7, 1), (RX8, TX8, 6), (RX9, TX9, 31), (RJx4a65c, TJx4a65c, 3)]
def nfl : Nat → Nat
  | 0 => 2 | 1 => 2 | 2 => 10 | 3 => 3 | 4 => 2 | 5 => 3 | 6 => 4 | 7 => 1 | 8 => 6 | 9 => 31 | _ => 3
abbrev ety (E : EV) : List (ClassId × FieldType) := [(eA E 0, .object "java/lang/Object"), (eA E 1, .int), (eA E 2, .boolean), (eA E 3, .long), (eA E 4, .double)]
def qStr : List (String × Nat × String) := [("Couplet", 256, "there is no such end"), ("Couplet", 136, "no message from this end"), ("Couplet", 157, "no message to this end"), ("Couplet", 59, "there is no such position"), ("Couplet", 259, "this character can not be written"), ("Couplet", 266, "the text is full"), ("Couplet", 263, "all operations were made"), ("Couplet", 95, "nothing is ahead of the cursor"), ("Couplet", 105, "no operation is kept"), ("Couplet", 271, "there is no such message"), ("Couplet", 273, "there is no such operation"), ("Couplet", 240, "the text is empty"), ("Couplet", 246, "the history has no messages")]
def EN (E : EV) (s : State) : Prop :=
  va_K (eD E) kcl (ety E) s ∧ va_Z "java/util/ArrayList" "DEFAULTCAPACITY_EMPTY_ELEMENTDATA" "[Ljava/lang/Object;" (.ref (eZ E)) (A0 E) s s.heap ∧ va_T (.object "java/lang/Object") (eZ E) 0 (fun _ => .null) (A0 E) s s.heap ∧
  vx_Zq Bundle.tN "UNASSIGNED_STACK" Bundle.steD (A0 E) s s.heap ∧ vx_Zq Bundle.tN "SUPPRESSED_SENTINEL" Bundle.listD (A0 E) s s.heap ∧ (∀ w ∈ WN, va_Nw w s) ∧ (∀ q ∈ qStr, ∃ a, vk_R q.1 q.2.1 q.2.2 a s) ∧ eN E ≤ s.heap.size ∧ va_AO "java/lang/Object" s ∧ va_Mi "[Ljava/lang/Object;" (eM E) s
theorem EN.calling {E : EV} {u : State} (g : JFrame) (mk : MethodId) (a : Array Value) (h : EN E u) : EN E (u.calling g mk a) := by
  obtain ⟨h1, h2, h3, h4, h5, h6, h7, h8, h9, h10⟩ := h
  have hv : (u.calling g mk a).vm = u.vm := rfl
  exact ⟨va_K.moved (Vm.Alike.refl u.vm) h1, va_Z.moved (Vm.Alike.refl u.vm) h2, va_T.moved (Vm.Alike.refl u.vm) h3, vx_Zq.moved (Vm.Alike.refl u.vm) h4, vx_Zq.moved (Vm.Alike.refl u.vm) h5, fun w hw => wn_same hw hv.symm (h6 w hw), fun q hq => by
    obtain ⟨a9, h9⟩ := h7 q hq
    exact ⟨a9, vk_R.same hv h9⟩, h8, va_AO.moved (Vm.Alike.refl u.vm) h9, va_Mi.moved (Vm.Alike.refl u.vm) h10⟩
theorem EN.call {E : EV} {s U : State} {H : Heap} {locs : List Loc} (h : EN E s) (hS : va_S (A0 E) s.heap H locs) (hU : U.heap = H) (hW : s.WarmedH U.vm) : EN E U := by
  obtain ⟨h1, h2, h3, h4, h5, h6, h7, h8, h9, h10⟩ := h
  subst hU
  have ha := hW.alike
  exact ⟨va_K.moved ha h1, va_Z.moved ha (va_Z.kept h2 hS.2.1), va_T.moved ha (va_T.kept h3 hS.2.1), vx_Zq.moved ha (vx_Zq.kept h4 hS.2.1), vx_Zq.moved ha (vx_Zq.kept h5 hS.2.1), fun w hw => wn_warm hw hW (h6 w hw), fun q hq => by
    obtain ⟨a9, h9⟩ := h7 q hq
    exact ⟨a9, vk_R.warm hW h9⟩, Nat.le_trans h8 hS.1, va_AO.moved ha h9, va_Mi.moved ha h10⟩
/-! WHAT THE HEAP HOLDS -/
def qLV (bk : Nat → Nat) (mcn : Nat → Int32) (h : AH) (a : Nat) : Nat → Value := fun k => match k with
  | 0 => .int (mcn a)
  | 1 => .ref (bk a)
  | _ => .int (nI (qL h a).length)
/-- how a raw row of references holds them: 0 for null -/
def rdc : Nat → Option Nat
  | 0 => none
  | n + 1 => some n
def qAt (E : EV) (bk : Nat → Nat) (mcn : Nat → Int32) (h : AH) (H : Heap) (a : Nat) : Prop :=
  (qK h a ≤ 10 → t_OB a ((eD E).1 (qK h a - 1)) (nfl (qK h a - 1)) ((eD E).2 (qK h a - 1)) H (fun k => qF h (100 * (qK h a - 1) + k) a)) ∧
  (qK h a = 11 → t_OB a ((eD E).1 10) 3 ((eD E).2 10) H (qLV bk mcn h a)) ∧
  (qK h a = 18 → t_OB a ((eD E).1 10) 3 ((eD E).2 10) H (fun k => qF h (1000 + k) a)) ∧
  ((qK h a = 13 ∨ qK h a = 14) → H[a]? = some (arrV (eA E 1) (qI h a).length (fun j => .int ((qI h a).getD j 0)))) ∧
  (qK h a = 15 → H[a]? = some (arrV (eA E 2) (qI h a).length (fun j => .int ((qI h a).getD j 0)))) ∧
  (qK h a = 16 → ∃ x : Int64, qF h 1600 a = .long x ∧ H[a]? = some (arrV (eA E 3) 1 (fun _ => .long x))) ∧
  (qK h a = 17 → ∃ x : UInt64, qF h 1700 a = .double x ∧ H[a]? = some (arrV (eA E 4) 1 (fun _ => .double x))) ∧
  (qK h a = 19 → H[a]? = some (arrV (eA E 0) (qL h a).length (fun j => va_rf (rdc ((qL h a).getD j 0)))))
def qLB (E : EV) (bk : Nat → Nat) (h : AH) (H : Heap) (a : Nat) : Prop :=
  (qC h a = 0 ∧ bk a = eZ E ∧ qL h a = []) ∨ (0 < qC h a ∧ (10 ≤ qC h a ∧ qC h a < 40000) ∧ (qL h a).length ≤ qC h a ∧ eN E ≤ bk a ∧ qK h (bk a) = 0 ∧ H[bk a]? = some (arrV (eA E 0) (qC h a) (fun j => va_rf ((qL h a)[j]?))))
def HP (E : EV) (h : AH) (H : Heap) : Prop := ∃ (bk : Nat → Nat) (mcn : Nat → Int32),
  (∀ a, qK h a ≠ 0 → eN E ≤ a ∧ a < H.size ∧ qAt E bk mcn h H a) ∧ (∀ a, qK h a = 11 → qLB E bk h H a) ∧ (∀ a b, qK h a = 11 → qK h b = 11 → 0 < qC h a → 0 < qC h b → bk a = bk b → a = b)
theorem qAt.kept {E : EV} {bk bk1 : Nat → Nat} {mcn mcn1 : Nat → Int32} {h h1 : AH} {H H1 : Heap} {a : Nat} (z : qAt E bk mcn h H a) (hq : H1[a]? = H[a]?) (e1 : qK h1 a = qK h a) (e2 : ∀ f, qF h1 f a = qF h f a) (e3 : qI h1 a = qI h a) (e4 : qL h1 a = qL h a) (e5 : bk1 a = bk a) (e6 : mcn1 a = mcn a) : qAt E bk1 mcn1 h1 H1 a := by
  obtain ⟨z1, z2, z3, z4, z5, z6, z7, z8⟩ := z
  unfold qAt
  simp only [e1, e2, e3, e4, hq]
  refine ⟨fun x => t_OB.to ((z1 x).kept hq) (fun k _ => rfl), fun x => t_OB.to ((z2 x).kept hq) (fun k _ => ?_), fun x => t_OB.to ((z3 x).kept hq) (fun k _ => rfl), z4, z5, z6, z7, z8⟩
  unfold qLV
  rw [e4, e5, e6]
theorem HP.upd {E : EV} {h h1 : AH} {H H1 : Heap} {a : Nat} (hp : HP E h H) (hk : qK h a ≠ 0) (hk1 : qK h a ≠ 11) (eK : qK h1 = qK h) (eL : qL h1 = qL h) (eC : qC h1 = qC h) (eF : ∀ f b, b ≠ a → qF h1 f b = qF h f b) (eI : ∀ b, b ≠ a → qI h1 b = qI h b) (hs : H1.size = H.size) (oq : ∀ q, q ≠ a → H1[q]? = H[q]?) (hat : ∀ bk mcn, qAt E bk mcn h H a → qAt E bk mcn h1 H1 a) : HP E h1 H1 := by
  obtain ⟨bk, mcn, p1, p2, p3⟩ := hp
  refine ⟨bk, mcn, fun b hb => ?_, fun b hb => ?_, fun b c hb hc hc0 hd0 hbc => p3 b c (by rw [← eK]; exact hb) (by rw [← eK]; exact hc) (by rw [← eC]; exact hc0) (by rw [← eC]; exact hd0) hbc⟩
  · rw [eK] at hb
    obtain ⟨b1, b2, b3⟩ := p1 b hb
    refine ⟨b1, by rw [hs]; exact b2, ?_⟩
    by_cases e : b = a
    · subst e; exact hat bk mcn b3
    · exact b3.kept (oq b e) (by rw [eK]) (fun f => eF f b e) (eI b e) (by rw [eL]) rfl rfl
  · rw [eK] at hb
    have z := p2 b hb
    unfold qLB at z ⊢
    rw [eC, eL, eK]
    rcases z with z | ⟨z1, z2, z3, z4, z5, z6⟩
    · exact Or.inl z
    · exact Or.inr ⟨z1, z2, z3, z4, z5, by rw [oq _ (fun e => hk (by rw [← e]; exact z5))]; exact z6⟩
theorem HP.add {E : EV} {h h1 : AH} {H H1 : Heap} {q : Nat} (hp : HP E h H) (hq : q = H.size) (hN : eN E ≤ H.size) (hz : qK h1 q ≠ 11) (eK : ∀ b, b ≠ q → qK h1 b = qK h b) (eL : ∀ b, b ≠ q → qL h1 b = qL h b) (eC : ∀ b, b ≠ q → qC h1 b = qC h b) (eF : ∀ f b, b ≠ q → qF h1 f b = qF h f b) (eI : ∀ b, b ≠ q → qI h1 b = qI h b) (hs : H1.size = q + 1) (oq : ∀ x, x < q → H1[x]? = H[x]?) (hat : ∀ bk mcn, qAt E bk mcn h1 H1 q) : HP E h1 H1 ∧ qK h q = 0 := by
  subst hq
  obtain ⟨bk, mcn, p1, p2, p3⟩ := hp
  have h0 : qK h H.size = 0 := by
    rcases Nat.eq_zero_or_pos (qK h H.size) with z | z
    · exact z
    · exact absurd (p1 H.size (by omega)).2.1 (Nat.lt_irrefl _)
  refine ⟨⟨bk, mcn, fun b hb => ?_, fun b hb => ?_, fun b c hb hc hc0 hd0 hbc => ?_⟩, h0⟩
  · by_cases e : b = H.size
    · subst e; exact ⟨hN, by omega, hat bk mcn⟩
    · rw [eK b e] at hb
      obtain ⟨b1, b2, b3⟩ := p1 b hb
      exact ⟨b1, by omega, b3.kept (oq b b2) (eK b e) (fun f => eF f b e) (eI b e) (eL b e) rfl rfl⟩
  · have e : b ≠ H.size := fun e => hz (by rw [← e]; exact hb)
    rw [eK b e] at hb
    have z := p2 b hb
    unfold qLB at z ⊢
    rw [eC b e, eL b e]
    rcases z with z | ⟨z1, z2, z3, z4, z5, z6⟩
    · exact Or.inl z
    · have l := (Array.getElem?_eq_some_iff.mp z6).1
      exact Or.inr ⟨z1, z2, z3, z4, by rw [eK _ (by omega)]; exact z5, by rw [oq _ l]; exact z6⟩
  · have e : b ≠ H.size := fun e => hz (by rw [← e]; exact hb)
    have e2 : c ≠ H.size := fun e => hz (by rw [← e]; exact hc)
    rw [eK b e] at hb
    rw [eK c e2] at hc
    rw [eC b e] at hc0
    rw [eC c e2] at hd0
    exact p3 b c hb hc hc0 hd0 hbc
/-! THE JUDGEMENT -/
abbrev VG : Type := Program × Launch × Env × Room × State × MethodId × Array Value × List Frame × Method × Code × (State → Prop)
abbrev gp (Γ : VG) : Program := Γ.1
abbrev gl (Γ : VG) : Launch := Γ.2.1
abbrev ge (Γ : VG) : Env := Γ.2.2.1
abbrev gR (Γ : VG) : Room := Γ.2.2.2.1
abbrev gs (Γ : VG) : State := Γ.2.2.2.2.1
abbrev gm (Γ : VG) : MethodId := Γ.2.2.2.2.2.1
abbrev ga (Γ : VG) : Array Value := Γ.2.2.2.2.2.2.1
abbrev gb (Γ : VG) : List Frame := Γ.2.2.2.2.2.2.2.1
abbrev gM (Γ : VG) : Method := Γ.2.2.2.2.2.2.2.2.1
abbrev gc (Γ : VG) : Code := Γ.2.2.2.2.2.2.2.2.2.1
abbrev gQ (Γ : VG) : State → Prop := Γ.2.2.2.2.2.2.2.2.2.2
abbrev WG (Γ : VG) (H : Heap) (locs : List Loc) (k n : Nat) (pc : Nat) (ls : Array Slot) (st : List Value) : Prop := W (gp Γ) (gl Γ) (ge Γ) (gR Γ) (gs Γ) (gm Γ) (ga Γ) (gb Γ) (gM Γ) (gc Γ) H locs k n (gQ Γ) (F0 (gm Γ) pc ls st)
def V (E : EV) (Γ : VG) (b : Nat) (h : AH) (pc : Nat) (lv : List (Nat × Value)) (st : List Value) : Prop :=
  ∀ (ls : Array Slot) (H : Heap) (locs : List Loc) (k n : Nat), lv_has ls (gc Γ).maxLocals lv → HP E h H → va_S (A0 E) (gs Γ).heap H locs → k + b / 3 ≤ (gR Γ).cells → n + 4 * b ≤ (gR Γ).slots → WG Γ H locs k n pc ls st
def CX (E : EV) (Γ : VG) (own : String) (cc : ByteArray) (nL : Nat) : Prop :=
  (gp Γ).tables.exec = Jvm.exec ∧ (gc Γ).code = cc ∧ (gc Γ).maxLocals = nL ∧ (gs Γ).vm.findClass own = some (gm Γ).cls ∧ (∀ w ∈ WS, w.before (ga Γ) (gs Γ) = true) ∧ EN E (gs Γ) ∧ (gM Γ).locks = false ∧ (gl Γ).stackTraces = false
section VR
variable {E : EV} {Γ : VG} {own : String} {cc : ByteArray} {nL b : Nat} {h : AH} {pc : Nat} {lv : List (Nat × Value)} {st : List Value}
theorem V.eq {lv' : List (Nat × Value)} {st' : List Value} (e1 : lv = lv') (e2 : st = st') (k : V E Γ b h pc lv' st') : V E Γ b h pc lv st := by rw [e1, e2]; exact k
theorem V.heap {h' : AH} (e : h = h') (k : V E Γ b h' pc lv st) : V E Γ b h pc lv st := by rw [e]; exact k
theorem V.less {b' : Nat} (e : b' ≤ b) (k : V E Γ b' h pc lv st) : V E Γ b h pc lv st := fun ls H locs k9 n h1 h2 h3 h4 h5 => k ls H locs k9 n h1 h2 h3 (by omega) (by omega)
theorem V.sub {lv' : List (Nat × Value)} (ks : List Nat) (e : lv_pick lv ks = lv') (k : V E Γ b h pc lv' st) : V E Γ b h pc lv st := fun ls H locs k9 n h1 h2 h3 h4 h5 => k ls H locs k9 n (lv_sub h1 ks e) h2 h3 h4 h5
theorem V_iadd (X : CX E Γ own cc nL) {x y : Int32} (d : decode cc pc = .ok (.iadd, 1))  (k : V E Γ b h (pc + 1) lv (.int (x + y) :: st)) : V E Γ b h pc lv (.int y :: .int x :: st) :=
  fun ls H locs k9 n9 h1 h2 h3 h4 h5 => lv_iadd X.1 X.2.1 d  (k ls H locs k9 n9 h1 h2 h3 h4 h5)
theorem V_isub (X : CX E Γ own cc nL) {x y : Int32} (d : decode cc pc = .ok (.isub, 1))  (k : V E Γ b h (pc + 1) lv (.int (x - y) :: st)) : V E Γ b h pc lv (.int y :: .int x :: st) :=
  fun ls H locs k9 n9 h1 h2 h3 h4 h5 => lv_isub X.1 X.2.1 d  (k ls H locs k9 n9 h1 h2 h3 h4 h5)
theorem V_imul (X : CX E Γ own cc nL) {x y : Int32} (d : decode cc pc = .ok (.imul, 1))  (k : V E Γ b h (pc + 1) lv (.int (x * y) :: st)) : V E Γ b h pc lv (.int y :: .int x :: st) :=
  fun ls H locs k9 n9 h1 h2 h3 h4 h5 => lv_imul X.1 X.2.1 d  (k ls H locs k9 n9 h1 h2 h3 h4 h5)
theorem V_iand (X : CX E Γ own cc nL) {x y : Int32} (d : decode cc pc = .ok (.iand, 1))  (k : V E Γ b h (pc + 1) lv (.int (x &&& y) :: st)) : V E Γ b h pc lv (.int y :: .int x :: st) :=
  fun ls H locs k9 n9 h1 h2 h3 h4 h5 => lv_iand X.1 X.2.1 d  (k ls H locs k9 n9 h1 h2 h3 h4 h5)
theorem V_ladd (X : CX E Γ own cc nL) {x y : Int64} (d : decode cc pc = .ok (.ladd, 1))  (k : V E Γ b h (pc + 1) lv (.long (x + y) :: st)) : V E Γ b h pc lv (.long y :: .long x :: st) :=
  fun ls H locs k9 n9 h1 h2 h3 h4 h5 => lv_ladd X.1 X.2.1 d  (k ls H locs k9 n9 h1 h2 h3 h4 h5)
theorem V_lmul (X : CX E Γ own cc nL) {x y : Int64} (d : decode cc pc = .ok (.lmul, 1))  (k : V E Γ b h (pc + 1) lv (.long (x * y) :: st)) : V E Γ b h pc lv (.long y :: .long x :: st) :=
  fun ls H locs k9 n9 h1 h2 h3 h4 h5 => lv_lmul X.1 X.2.1 d  (k ls H locs k9 n9 h1 h2 h3 h4 h5)
theorem V_ineg (X : CX E Γ own cc nL) {x : Int32} (d : decode cc pc = .ok (.ineg, 1))  (k : V E Γ b h (pc + 1) lv (.int (-x) :: st)) : V E Γ b h pc lv (.int x :: st) :=
  fun ls H locs k9 n9 h1 h2 h3 h4 h5 => lv_ineg X.1 X.2.1 d  (k ls H locs k9 n9 h1 h2 h3 h4 h5)
theorem V_i2l (X : CX E Γ own cc nL) {x : Int32} (d : decode cc pc = .ok (.i2l, 1))  (k : V E Γ b h (pc + 1) lv (.long x.toInt64 :: st)) : V E Γ b h pc lv (.int x :: st) :=
  fun ls H locs k9 n9 h1 h2 h3 h4 h5 => lv_i2l X.1 X.2.1 d rfl (k ls H locs k9 n9 h1 h2 h3 h4 h5)
theorem V_i2c (X : CX E Γ own cc nL) {x : Int32} (d : decode cc pc = .ok (.i2c, 1))  (k : V E Γ b h (pc + 1) lv (.int (x.toUInt32 % 65536).toInt32 :: st)) : V E Γ b h pc lv (.int x :: st) :=
  fun ls H locs k9 n9 h1 h2 h3 h4 h5 => lv_i2c X.1 X.2.1 d rfl (k ls H locs k9 n9 h1 h2 h3 h4 h5)
theorem V_i2f (X : CX E Γ own cc nL) {x : Int32} (d : decode cc pc = .ok (.i2f, 1))  (k : V E Γ b h (pc + 1) lv (.float (FP.i2f x) :: st)) : V E Γ b h pc lv (.int x :: st) :=
  fun ls H locs k9 n9 h1 h2 h3 h4 h5 => lv_i2f X.1 X.2.1 d  (k ls H locs k9 n9 h1 h2 h3 h4 h5)
theorem V_i2d (X : CX E Γ own cc nL) {x : Int32} (d : decode cc pc = .ok (.i2d, 1))  (k : V E Γ b h (pc + 1) lv (.double (FP.i2d x) :: st)) : V E Γ b h pc lv (.int x :: st) :=
  fun ls H locs k9 n9 h1 h2 h3 h4 h5 => lv_i2d X.1 X.2.1 d  (k ls H locs k9 n9 h1 h2 h3 h4 h5)
theorem V_f2d (X : CX E Γ own cc nL) {x : UInt32} (d : decode cc pc = .ok (.f2d, 1)) (hne : vf_n64 (FP.f2d x)) (k : V E Γ b h (pc + 1) lv (.double (FP.f2d x) :: st)) : V E Γ b h pc lv (.float x :: st) :=
  fun ls H locs k9 n9 h1 h2 h3 h4 h5 => lv_f2d X.1 X.2.1 d hne (k ls H locs k9 n9 h1 h2 h3 h4 h5)
theorem V_fdiv (X : CX E Γ own cc nL) {x y : UInt32} (d : decode cc pc = .ok (.fdiv, 1)) (hne : vf_n32 (FP.fdiv x y)) (k : V E Γ b h (pc + 1) lv (.float (FP.fdiv x y) :: st)) : V E Γ b h pc lv (.float y :: .float x :: st) :=
  fun ls H locs k9 n9 h1 h2 h3 h4 h5 => lv_fdiv X.1 X.2.1 d hne (k ls H locs k9 n9 h1 h2 h3 h4 h5)
theorem V_ddiv (X : CX E Γ own cc nL) {x y : UInt64} (d : decode cc pc = .ok (.ddiv, 1)) (hne : vf_n64 (FP.ddiv x y)) (k : V E Γ b h (pc + 1) lv (.double (FP.ddiv x y) :: st)) : V E Γ b h pc lv (.double y :: .double x :: st) :=
  fun ls H locs k9 n9 h1 h2 h3 h4 h5 => lv_ddiv X.1 X.2.1 d hne (k ls H locs k9 n9 h1 h2 h3 h4 h5)
theorem V_fcmp (X : CX E Γ own cc nL) {x y : UInt32} {op : CmpOp} (d : decode cc pc = .ok (.fcmp op, 1))  (k : V E Γ b h (pc + 1) lv (.int (Op.cmpValue (FP.fcmp x y) op) :: st)) : V E Γ b h pc lv (.float y :: .float x :: st) :=
  fun ls H locs k9 n9 h1 h2 h3 h4 h5 => lv_fcmp X.1 X.2.1 d  (k ls H locs k9 n9 h1 h2 h3 h4 h5)
theorem V_dcmp (X : CX E Γ own cc nL) {x y : UInt64} {op : CmpOp} (d : decode cc pc = .ok (.dcmp op, 1))  (k : V E Γ b h (pc + 1) lv (.int (Op.cmpValue (FP.dcmp x y) op) :: st)) : V E Γ b h pc lv (.double y :: .double x :: st) :=
  fun ls H locs k9 n9 h1 h2 h3 h4 h5 => lv_dcmp X.1 X.2.1 d  (k ls H locs k9 n9 h1 h2 h3 h4 h5)
theorem V_lcmp (X : CX E Γ own cc nL) {x y : Int64} (d : decode cc pc = .ok (.lcmp, 1))  (k : V E Γ b h (pc + 1) lv (.int (lg_cmp x y) :: st)) : V E Γ b h pc lv (.long y :: .long x :: st) :=
  fun ls H locs k9 n9 h1 h2 h3 h4 h5 => W.lcmp X.1 X.2.1 d  (k ls H locs k9 n9 h1 h2 h3 h4 h5)
theorem V_dup (X : CX E Γ own cc nL) {v : Value} (d : decode cc pc = .ok (.dup, 1)) (hv : v.category = 1) (k : V E Γ b h (pc + 1) lv (v :: v :: st)) : V E Γ b h pc lv (v :: st) :=
  fun ls H locs k9 n9 h1 h2 h3 h4 h5 => lv_dup X.1 X.2.1 d hv (k ls H locs k9 n9 h1 h2 h3 h4 h5)
theorem V_pop (X : CX E Γ own cc nL) {v : Value} (d : decode cc pc = .ok (.pop, 1)) (hv : v.category = 1) (k : V E Γ b h (pc + 1) lv (st)) : V E Γ b h pc lv (v :: st) :=
  fun ls H locs k9 n9 h1 h2 h3 h4 h5 => lv_pop X.1 X.2.1 d hv (k ls H locs k9 n9 h1 h2 h3 h4 h5)
theorem V_dup2 (X : CX E Γ own cc nL) {v u : Value} (d : decode cc pc = .ok (.dup2, 1)) (hv : v.category = 1) (hu : u.category = 1) (k : V E Γ b h (pc + 1) lv (v :: u :: v :: u :: st)) : V E Γ b h pc lv (v :: u :: st) :=
  fun ls H locs k9 n9 h1 h2 h3 h4 h5 => lv_dup2_11 X.1 X.2.1 d hv hu (k ls H locs k9 n9 h1 h2 h3 h4 h5)
theorem V_dup_x1 (X : CX E Γ own cc nL) {v u : Value} (d : decode cc pc = .ok (.dup_x1, 1)) (hv : v.category = 1) (hu : u.category = 1) (k : V E Γ b h (pc + 1) lv (v :: u :: v :: st)) : V E Γ b h pc lv (v :: u :: st) :=
  fun ls H locs k9 n9 h1 h2 h3 h4 h5 => lv_dup_x1 X.1 X.2.1 d hv hu (k ls H locs k9 n9 h1 h2 h3 h4 h5)
theorem V_null (X : CX E Γ own cc nL)  (d : decode cc pc = .ok (.aconst_null, 1))  (k : V E Γ b h (pc + 1) lv (.null :: st)) : V E Γ b h pc lv (st) :=
  fun ls H locs k9 n9 h1 h2 h3 h4 h5 => lv_null X.1 X.2.1 d  (k ls H locs k9 n9 h1 h2 h3 h4 h5)
theorem V_iconst (X : CX E Γ own cc nL) {n : Int} {v : Int32} (d : decode cc pc = .ok (.iconst n, 1)) (hv : Int32.ofInt n = v) (k : V E Γ b h (pc + 1) lv (.int v :: st)) : V E Γ b h pc lv (st) :=
  fun ls H locs k9 n9 h1 h2 h3 h4 h5 => lv_iconst X.1 X.2.1 d hv (k ls H locs k9 n9 h1 h2 h3 h4 h5)
theorem V_bipush (X : CX E Γ own cc nL) {n : Int} {v : Int32} (d : decode cc pc = .ok (.bipush n, 2)) (hv : (Int8.ofInt n).toInt32 = v) (k : V E Γ b h (pc + 2) lv (.int v :: st)) : V E Γ b h pc lv (st) :=
  fun ls H locs k9 n9 h1 h2 h3 h4 h5 => lv_bipush X.1 X.2.1 d hv (k ls H locs k9 n9 h1 h2 h3 h4 h5)
theorem V_sipush (X : CX E Γ own cc nL) {n : Int} {v : Int32} (d : decode cc pc = .ok (.sipush n, 3)) (hv : (Int16.ofInt n).toInt32 = v) (k : V E Γ b h (pc + 3) lv (.int v :: st)) : V E Γ b h pc lv (st) :=
  fun ls H locs k9 n9 h1 h2 h3 h4 h5 => lv_sipush X.1 X.2.1 d hv (k ls H locs k9 n9 h1 h2 h3 h4 h5)
theorem V_lconst (X : CX E Γ own cc nL) {n : Fin 2} {v : Int64} (d : decode cc pc = .ok (.lconst n, 1)) (hv : Int64.ofNat (n : Nat) = v) (k : V E Γ b h (pc + 1) lv (.long v :: st)) : V E Γ b h pc lv (st) :=
  fun ls H locs k9 n9 h1 h2 h3 h4 h5 => lv_lconst X.1 X.2.1 d hv (k ls H locs k9 n9 h1 h2 h3 h4 h5)
theorem V_iload_n (X : CX E Γ own cc nL) {k : Fin 4} (j : Nat) {x : Int32} (d : decode cc pc = .ok (.iload_n k, 1)) (hl : lv[j]? = some ((k : Nat), Value.int x)) (kk : V E Γ b h (pc + 1) lv (.int x :: st)) : V E Γ b h pc lv st :=
  fun ls H locs k9 n9 h1 h2 h3 h4 h5 => lv_iload_n X.1 X.2.1 d rfl (lv_at h1 j hl) (kk ls H locs k9 n9 h1 h2 h3 h4 h5)
theorem V_iload (X : CX E Γ own cc nL) {i : Nat} (j : Nat) {x : Int32} (d : decode cc pc = .ok (.iload i, 2)) (hl : lv[j]? = some (i, Value.int x)) (kk : V E Γ b h (pc + 2) lv (.int x :: st)) : V E Γ b h pc lv st :=
  fun ls H locs k9 n9 h1 h2 h3 h4 h5 => lv_iload X.1 X.2.1 d (lv_at h1 j hl) (kk ls H locs k9 n9 h1 h2 h3 h4 h5)
theorem V_istore_n (X : CX E Γ own cc nL) {k : Fin 4} {i : Nat} {x : Int32} (lv' : List (Nat × Value)) (d : decode cc pc = .ok (.istore_n k, 1)) (hi : (k : Nat) = i) (hn : i < nL) (hl : (i, Value.int x) :: lv.filter (fun q => !(q.1 == i) && !(q.1 + 1 == i && q.2.category == 2)) = lv') (kk : V E Γ b h (pc + 1) lv' st) : V E Γ b h pc lv (.int x :: st) :=
  fun ls H locs k9 n9 h1 h2 h3 h4 h5 => lv_istore_n X.1 X.2.1 d hi h1 (by rw [X.2.2.1]; exact hn) hl (fun ls' h1' => kk ls' H locs k9 n9 h1' h2 h3 h4 h5)
theorem V_istore (X : CX E Γ own cc nL) {i : Nat} {x : Int32} (lv' : List (Nat × Value)) (d : decode cc pc = .ok (.istore i, 2)) (hn : i < nL) (hl : (i, Value.int x) :: lv.filter (fun q => !(q.1 == i) && !(q.1 + 1 == i && q.2.category == 2)) = lv') (kk : V E Γ b h (pc + 2) lv' st) : V E Γ b h pc lv (.int x :: st) :=
  fun ls H locs k9 n9 h1 h2 h3 h4 h5 => lv_istore X.1 X.2.1 d h1 (by rw [X.2.2.1]; exact hn) hl (fun ls' h1' => kk ls' H locs k9 n9 h1' h2 h3 h4 h5)
theorem V_lload_n (X : CX E Γ own cc nL) {k : Fin 4} (j : Nat) {x : Int64} (d : decode cc pc = .ok (.lload_n k, 1)) (hl : lv[j]? = some ((k : Nat), Value.long x)) (kk : V E Γ b h (pc + 1) lv (.long x :: st)) : V E Γ b h pc lv st :=
  fun ls H locs k9 n9 h1 h2 h3 h4 h5 => lv_lload_n X.1 X.2.1 d rfl (lv_at h1 j hl) (kk ls H locs k9 n9 h1 h2 h3 h4 h5)
theorem V_lload (X : CX E Γ own cc nL) {i : Nat} (j : Nat) {x : Int64} (d : decode cc pc = .ok (.lload i, 2)) (hl : lv[j]? = some (i, Value.long x)) (kk : V E Γ b h (pc + 2) lv (.long x :: st)) : V E Γ b h pc lv st :=
  fun ls H locs k9 n9 h1 h2 h3 h4 h5 => lv_lload X.1 X.2.1 d (lv_at h1 j hl) (kk ls H locs k9 n9 h1 h2 h3 h4 h5)
theorem V_lstore_n (X : CX E Γ own cc nL) {k : Fin 4} {i : Nat} {x : Int64} (lv' : List (Nat × Value)) (d : decode cc pc = .ok (.lstore_n k, 1)) (hi : (k : Nat) = i) (hn : i + 1 < nL) (hl : (i, Value.long x) :: lv.filter (fun q => !(q.1 == i) && (!(q.1 == i + 1) && !(q.1 + 1 == i && q.2.category == 2))) = lv') (kk : V E Γ b h (pc + 1) lv' st) : V E Γ b h pc lv (.long x :: st) :=
  fun ls H locs k9 n9 h1 h2 h3 h4 h5 => lv_lstore_n X.1 X.2.1 d hi h1 (by rw [X.2.2.1]; exact hn) hl (fun ls' h1' => kk ls' H locs k9 n9 h1' h2 h3 h4 h5)
theorem V_lstore (X : CX E Γ own cc nL) {i : Nat} {x : Int64} (lv' : List (Nat × Value)) (d : decode cc pc = .ok (.lstore i, 2)) (hn : i + 1 < nL) (hl : (i, Value.long x) :: lv.filter (fun q => !(q.1 == i) && (!(q.1 == i + 1) && !(q.1 + 1 == i && q.2.category == 2))) = lv') (kk : V E Γ b h (pc + 2) lv' st) : V E Γ b h pc lv (.long x :: st) :=
  fun ls H locs k9 n9 h1 h2 h3 h4 h5 => lv_lstore X.1 X.2.1 d h1 (by rw [X.2.2.1]; exact hn) hl (fun ls' h1' => kk ls' H locs k9 n9 h1' h2 h3 h4 h5)
theorem V_fload_n (X : CX E Γ own cc nL) {k : Fin 4} (j : Nat) {x : UInt32} (d : decode cc pc = .ok (.fload_n k, 1)) (hl : lv[j]? = some ((k : Nat), Value.float x)) (kk : V E Γ b h (pc + 1) lv (.float x :: st)) : V E Γ b h pc lv st :=
  fun ls H locs k9 n9 h1 h2 h3 h4 h5 => lv_fload_n X.1 X.2.1 d rfl (lv_at h1 j hl) (kk ls H locs k9 n9 h1 h2 h3 h4 h5)
theorem V_fload (X : CX E Γ own cc nL) {i : Nat} (j : Nat) {x : UInt32} (d : decode cc pc = .ok (.fload i, 2)) (hl : lv[j]? = some (i, Value.float x)) (kk : V E Γ b h (pc + 2) lv (.float x :: st)) : V E Γ b h pc lv st :=
  fun ls H locs k9 n9 h1 h2 h3 h4 h5 => lv_fload X.1 X.2.1 d (lv_at h1 j hl) (kk ls H locs k9 n9 h1 h2 h3 h4 h5)
theorem V_fstore_n (X : CX E Γ own cc nL) {k : Fin 4} {i : Nat} {x : UInt32} (lv' : List (Nat × Value)) (d : decode cc pc = .ok (.fstore_n k, 1)) (hi : (k : Nat) = i) (hn : i < nL) (hl : (i, Value.float x) :: lv.filter (fun q => !(q.1 == i) && !(q.1 + 1 == i && q.2.category == 2)) = lv') (kk : V E Γ b h (pc + 1) lv' st) : V E Γ b h pc lv (.float x :: st) :=
  fun ls H locs k9 n9 h1 h2 h3 h4 h5 => lv_fstore_n X.1 X.2.1 d hi h1 (by rw [X.2.2.1]; exact hn) hl (fun ls' h1' => kk ls' H locs k9 n9 h1' h2 h3 h4 h5)
theorem V_fstore (X : CX E Γ own cc nL) {i : Nat} {x : UInt32} (lv' : List (Nat × Value)) (d : decode cc pc = .ok (.fstore i, 2)) (hn : i < nL) (hl : (i, Value.float x) :: lv.filter (fun q => !(q.1 == i) && !(q.1 + 1 == i && q.2.category == 2)) = lv') (kk : V E Γ b h (pc + 2) lv' st) : V E Γ b h pc lv (.float x :: st) :=
  fun ls H locs k9 n9 h1 h2 h3 h4 h5 => lv_fstore X.1 X.2.1 d h1 (by rw [X.2.2.1]; exact hn) hl (fun ls' h1' => kk ls' H locs k9 n9 h1' h2 h3 h4 h5)
theorem V_dload_n (X : CX E Γ own cc nL) {k : Fin 4} (j : Nat) {x : UInt64} (d : decode cc pc = .ok (.dload_n k, 1)) (hl : lv[j]? = some ((k : Nat), Value.double x)) (kk : V E Γ b h (pc + 1) lv (.double x :: st)) : V E Γ b h pc lv st :=
  fun ls H locs k9 n9 h1 h2 h3 h4 h5 => lv_dload_n X.1 X.2.1 d rfl (lv_at h1 j hl) (kk ls H locs k9 n9 h1 h2 h3 h4 h5)
theorem V_dload (X : CX E Γ own cc nL) {i : Nat} (j : Nat) {x : UInt64} (d : decode cc pc = .ok (.dload i, 2)) (hl : lv[j]? = some (i, Value.double x)) (kk : V E Γ b h (pc + 2) lv (.double x :: st)) : V E Γ b h pc lv st :=
  fun ls H locs k9 n9 h1 h2 h3 h4 h5 => lv_dload X.1 X.2.1 d (lv_at h1 j hl) (kk ls H locs k9 n9 h1 h2 h3 h4 h5)
theorem V_dstore_n (X : CX E Γ own cc nL) {k : Fin 4} {i : Nat} {x : UInt64} (lv' : List (Nat × Value)) (d : decode cc pc = .ok (.dstore_n k, 1)) (hi : (k : Nat) = i) (hn : i + 1 < nL) (hl : (i, Value.double x) :: lv.filter (fun q => !(q.1 == i) && (!(q.1 == i + 1) && !(q.1 + 1 == i && q.2.category == 2))) = lv') (kk : V E Γ b h (pc + 1) lv' st) : V E Γ b h pc lv (.double x :: st) :=
  fun ls H locs k9 n9 h1 h2 h3 h4 h5 => lv_dstore_n X.1 X.2.1 d hi h1 (by rw [X.2.2.1]; exact hn) hl (fun ls' h1' => kk ls' H locs k9 n9 h1' h2 h3 h4 h5)
theorem V_dstore (X : CX E Γ own cc nL) {i : Nat} {x : UInt64} (lv' : List (Nat × Value)) (d : decode cc pc = .ok (.dstore i, 2)) (hn : i + 1 < nL) (hl : (i, Value.double x) :: lv.filter (fun q => !(q.1 == i) && (!(q.1 == i + 1) && !(q.1 + 1 == i && q.2.category == 2))) = lv') (kk : V E Γ b h (pc + 2) lv' st) : V E Γ b h pc lv (.double x :: st) :=
  fun ls H locs k9 n9 h1 h2 h3 h4 h5 => lv_dstore X.1 X.2.1 d h1 (by rw [X.2.2.1]; exact hn) hl (fun ls' h1' => kk ls' H locs k9 n9 h1' h2 h3 h4 h5)
theorem V_aload_n (X : CX E Γ own cc nL) {k : Fin 4} (j : Nat) {x : Nat} (d : decode cc pc = .ok (.aload_n k, 1)) (hl : lv[j]? = some ((k : Nat), Value.ref x)) (kk : V E Γ b h (pc + 1) lv (.ref x :: st)) : V E Γ b h pc lv st :=
  fun ls H locs k9 n9 h1 h2 h3 h4 h5 => lv_aload_n X.1 X.2.1 d rfl (lv_at h1 j hl) (kk ls H locs k9 n9 h1 h2 h3 h4 h5)
theorem V_aload (X : CX E Γ own cc nL) {i : Nat} (j : Nat) {x : Nat} (d : decode cc pc = .ok (.aload i, 2)) (hl : lv[j]? = some (i, Value.ref x)) (kk : V E Γ b h (pc + 2) lv (.ref x :: st)) : V E Γ b h pc lv st :=
  fun ls H locs k9 n9 h1 h2 h3 h4 h5 => lv_aload X.1 X.2.1 d (lv_at h1 j hl) (kk ls H locs k9 n9 h1 h2 h3 h4 h5)
theorem V_astore_n (X : CX E Γ own cc nL) {k : Fin 4} {i : Nat} {x : Nat} (lv' : List (Nat × Value)) (d : decode cc pc = .ok (.astore_n k, 1)) (hi : (k : Nat) = i) (hn : i < nL) (hl : (i, Value.ref x) :: lv.filter (fun q => !(q.1 == i) && !(q.1 + 1 == i && q.2.category == 2)) = lv') (kk : V E Γ b h (pc + 1) lv' st) : V E Γ b h pc lv (.ref x :: st) :=
  fun ls H locs k9 n9 h1 h2 h3 h4 h5 => lv_astore_n X.1 X.2.1 d hi h1 (by rw [X.2.2.1]; exact hn) hl (fun ls' h1' => kk ls' H locs k9 n9 h1' h2 h3 h4 h5)
theorem V_astore (X : CX E Γ own cc nL) {i : Nat} {x : Nat} (lv' : List (Nat × Value)) (d : decode cc pc = .ok (.astore i, 2)) (hn : i < nL) (hl : (i, Value.ref x) :: lv.filter (fun q => !(q.1 == i) && !(q.1 + 1 == i && q.2.category == 2)) = lv') (kk : V E Γ b h (pc + 2) lv' st) : V E Γ b h pc lv (.ref x :: st) :=
  fun ls H locs k9 n9 h1 h2 h3 h4 h5 => lv_astore X.1 X.2.1 d h1 (by rw [X.2.2.1]; exact hn) hl (fun ls' h1' => kk ls' H locs k9 n9 h1' h2 h3 h4 h5)
theorem V_iinc (X : CX E Γ own cc nL) {i : Nat} {n : Int} {x v : Int32} (j : Nat) (lv' : List (Nat × Value)) (d : decode cc pc = .ok (.iinc i n, 3)) (hj : lv[j]? = some (i, .int x)) (hv : x + Int32.ofInt n = v) (hn : i < nL) (hl : (i, Value.int v) :: lv.filter (fun q => !(q.1 == i) && !(q.1 + 1 == i && q.2.category == 2)) = lv') (kk : V E Γ b h (pc + 3) lv' st) : V E Γ b h pc lv st :=
  fun ls H locs k9 n9 h1 h2 h3 h4 h5 => lv_iinc X.1 X.2.1 d h1 hj hv (by rw [X.2.2.1]; exact hn) hl (fun ls' h1' => kk ls' H locs k9 n9 h1' h2 h3 h4 h5)
-- BRANCHES
theorem V_if_eq (X : CX E Γ own cc nL) {x : Int32} {off : Int} (tgt : Nat) (d : decode cc pc = .ok (.ifCond .eq off, 3)) (ht : (pc : Int) + off = (tgt : Int)) (kt : x = 0 → V E Γ b h tgt lv st) (kf : ¬ x = 0 → V E Γ b h (pc + 3) lv st) : V E Γ b h pc lv (.int x :: st) :=
  fun ls H locs k9 n9 h1 h2 h3 h4 h5 => lv_if_eq X.1 X.2.1 d ht (fun c => kt c ls H locs k9 n9 h1 h2 h3 h4 h5) (fun c => kf c ls H locs k9 n9 h1 h2 h3 h4 h5)
theorem V_icmp_eq (X : CX E Γ own cc nL) {x y : Int32} {off : Int} (tgt : Nat) (d : decode cc pc = .ok (.if_icmp .eq off, 3)) (ht : (pc : Int) + off = (tgt : Int)) (kt : x = y → V E Γ b h tgt lv st) (kf : ¬ x = y → V E Γ b h (pc + 3) lv st) : V E Γ b h pc lv (.int y :: .int x :: st) :=
  fun ls H locs k9 n9 h1 h2 h3 h4 h5 => lv_icmp_eq X.1 X.2.1 d ht (fun c => kt c ls H locs k9 n9 h1 h2 h3 h4 h5) (fun c => kf c ls H locs k9 n9 h1 h2 h3 h4 h5)
theorem V_if_ne (X : CX E Γ own cc nL) {x : Int32} {off : Int} (tgt : Nat) (d : decode cc pc = .ok (.ifCond .ne off, 3)) (ht : (pc : Int) + off = (tgt : Int)) (kt : ¬ x = 0 → V E Γ b h tgt lv st) (kf : x = 0 → V E Γ b h (pc + 3) lv st) : V E Γ b h pc lv (.int x :: st) :=
  fun ls H locs k9 n9 h1 h2 h3 h4 h5 => lv_if_ne X.1 X.2.1 d ht (fun c => kt c ls H locs k9 n9 h1 h2 h3 h4 h5) (fun c => kf c ls H locs k9 n9 h1 h2 h3 h4 h5)
theorem V_icmp_ne (X : CX E Γ own cc nL) {x y : Int32} {off : Int} (tgt : Nat) (d : decode cc pc = .ok (.if_icmp .ne off, 3)) (ht : (pc : Int) + off = (tgt : Int)) (kt : ¬ x = y → V E Γ b h tgt lv st) (kf : x = y → V E Γ b h (pc + 3) lv st) : V E Γ b h pc lv (.int y :: .int x :: st) :=
  fun ls H locs k9 n9 h1 h2 h3 h4 h5 => lv_icmp_ne X.1 X.2.1 d ht (fun c => kt c ls H locs k9 n9 h1 h2 h3 h4 h5) (fun c => kf c ls H locs k9 n9 h1 h2 h3 h4 h5)
theorem V_if_lt (X : CX E Γ own cc nL) {x : Int32} {off : Int} (tgt : Nat) (d : decode cc pc = .ok (.ifCond .lt off, 3)) (ht : (pc : Int) + off = (tgt : Int)) (kt : x < 0 → V E Γ b h tgt lv st) (kf : ¬ x < 0 → V E Γ b h (pc + 3) lv st) : V E Γ b h pc lv (.int x :: st) :=
  fun ls H locs k9 n9 h1 h2 h3 h4 h5 => lv_if_lt X.1 X.2.1 d ht (fun c => kt c ls H locs k9 n9 h1 h2 h3 h4 h5) (fun c => kf c ls H locs k9 n9 h1 h2 h3 h4 h5)
theorem V_icmp_lt (X : CX E Γ own cc nL) {x y : Int32} {off : Int} (tgt : Nat) (d : decode cc pc = .ok (.if_icmp .lt off, 3)) (ht : (pc : Int) + off = (tgt : Int)) (kt : x < y → V E Γ b h tgt lv st) (kf : ¬ x < y → V E Γ b h (pc + 3) lv st) : V E Γ b h pc lv (.int y :: .int x :: st) :=
  fun ls H locs k9 n9 h1 h2 h3 h4 h5 => lv_icmp_lt X.1 X.2.1 d ht (fun c => kt c ls H locs k9 n9 h1 h2 h3 h4 h5) (fun c => kf c ls H locs k9 n9 h1 h2 h3 h4 h5)
theorem V_if_ge (X : CX E Γ own cc nL) {x : Int32} {off : Int} (tgt : Nat) (d : decode cc pc = .ok (.ifCond .ge off, 3)) (ht : (pc : Int) + off = (tgt : Int)) (kt : 0 ≤ x → V E Γ b h tgt lv st) (kf : ¬ 0 ≤ x → V E Γ b h (pc + 3) lv st) : V E Γ b h pc lv (.int x :: st) :=
  fun ls H locs k9 n9 h1 h2 h3 h4 h5 => lv_if_ge X.1 X.2.1 d ht (fun c => kt c ls H locs k9 n9 h1 h2 h3 h4 h5) (fun c => kf c ls H locs k9 n9 h1 h2 h3 h4 h5)
theorem V_icmp_ge (X : CX E Γ own cc nL) {x y : Int32} {off : Int} (tgt : Nat) (d : decode cc pc = .ok (.if_icmp .ge off, 3)) (ht : (pc : Int) + off = (tgt : Int)) (kt : y ≤ x → V E Γ b h tgt lv st) (kf : ¬ y ≤ x → V E Γ b h (pc + 3) lv st) : V E Γ b h pc lv (.int y :: .int x :: st) :=
  fun ls H locs k9 n9 h1 h2 h3 h4 h5 => lv_icmp_ge X.1 X.2.1 d ht (fun c => kt c ls H locs k9 n9 h1 h2 h3 h4 h5) (fun c => kf c ls H locs k9 n9 h1 h2 h3 h4 h5)
theorem V_if_gt (X : CX E Γ own cc nL) {x : Int32} {off : Int} (tgt : Nat) (d : decode cc pc = .ok (.ifCond .gt off, 3)) (ht : (pc : Int) + off = (tgt : Int)) (kt : 0 < x → V E Γ b h tgt lv st) (kf : ¬ 0 < x → V E Γ b h (pc + 3) lv st) : V E Γ b h pc lv (.int x :: st) :=
  fun ls H locs k9 n9 h1 h2 h3 h4 h5 => lv_if_gt X.1 X.2.1 d ht (fun c => kt c ls H locs k9 n9 h1 h2 h3 h4 h5) (fun c => kf c ls H locs k9 n9 h1 h2 h3 h4 h5)
theorem V_icmp_gt (X : CX E Γ own cc nL) {x y : Int32} {off : Int} (tgt : Nat) (d : decode cc pc = .ok (.if_icmp .gt off, 3)) (ht : (pc : Int) + off = (tgt : Int)) (kt : y < x → V E Γ b h tgt lv st) (kf : ¬ y < x → V E Γ b h (pc + 3) lv st) : V E Γ b h pc lv (.int y :: .int x :: st) :=
  fun ls H locs k9 n9 h1 h2 h3 h4 h5 => lv_icmp_gt X.1 X.2.1 d ht (fun c => kt c ls H locs k9 n9 h1 h2 h3 h4 h5) (fun c => kf c ls H locs k9 n9 h1 h2 h3 h4 h5)
theorem V_if_le (X : CX E Γ own cc nL) {x : Int32} {off : Int} (tgt : Nat) (d : decode cc pc = .ok (.ifCond .le off, 3)) (ht : (pc : Int) + off = (tgt : Int)) (kt : x ≤ 0 → V E Γ b h tgt lv st) (kf : ¬ x ≤ 0 → V E Γ b h (pc + 3) lv st) : V E Γ b h pc lv (.int x :: st) :=
  fun ls H locs k9 n9 h1 h2 h3 h4 h5 => lv_if_le X.1 X.2.1 d ht (fun c => kt c ls H locs k9 n9 h1 h2 h3 h4 h5) (fun c => kf c ls H locs k9 n9 h1 h2 h3 h4 h5)
theorem V_icmp_le (X : CX E Γ own cc nL) {x y : Int32} {off : Int} (tgt : Nat) (d : decode cc pc = .ok (.if_icmp .le off, 3)) (ht : (pc : Int) + off = (tgt : Int)) (kt : x ≤ y → V E Γ b h tgt lv st) (kf : ¬ x ≤ y → V E Γ b h (pc + 3) lv st) : V E Γ b h pc lv (.int y :: .int x :: st) :=
  fun ls H locs k9 n9 h1 h2 h3 h4 h5 => lv_icmp_le X.1 X.2.1 d ht (fun c => kt c ls H locs k9 n9 h1 h2 h3 h4 h5) (fun c => kf c ls H locs k9 n9 h1 h2 h3 h4 h5)
theorem V_acmp_ne (X : CX E Γ own cc nL) {x y : Nat} {off : Int} (tgt : Nat) (d : decode cc pc = .ok (.if_acmp .ne off, 3)) (ht : (pc : Int) + off = (tgt : Int)) (kt : ¬ x = y → V E Γ b h tgt lv st) (kf : x = y → V E Γ b h (pc + 3) lv st) : V E Γ b h pc lv (.ref y :: .ref x :: st) :=
  fun ls H locs k9 n9 h1 h2 h3 h4 h5 => lv_acmp_ne (rx := some x) (ry := some y) X.1 X.2.1 d ht (fun c => kt (fun e => c (by rw [e])) ls H locs k9 n9 h1 h2 h3 h4 h5) (fun c => kf (Option.some.inj c) ls H locs k9 n9 h1 h2 h3 h4 h5)
theorem V_goto (X : CX E Γ own cc nL) {off : Int} (tgt : Nat) (d : decode cc pc = .ok (.goto off, 3)) (ht : (pc : Int) + off = (tgt : Int)) (k : V E Γ b h tgt lv st) : V E Γ b h pc lv st :=
  fun ls H locs k9 n9 h1 h2 h3 h4 h5 => lv_goto X.1 X.2.1 d ht (k ls H locs k9 n9 h1 h2 h3 h4 h5)
theorem V_tableIn (X : CX E Γ own cc nL) {dflt lo hi : Int} {offs : Array Int} {len : Nat} {x : Int32} {off : Int} (tgt : Nat) (d : decode cc pc = .ok (.tableswitch dflt lo hi offs, len)) (g1 : ¬ x.toInt < lo) (g2 : ¬ hi < x.toInt) (ho : offs[(x.toInt - lo).toNat]? = some off) (ht : (pc : Int) + off = (tgt : Int)) (k : V E Γ b h tgt lv st) : V E Γ b h pc lv (.int x :: st) :=
  fun ls H locs k9 n9 h1 h2 h3 h4 h5 => lv_tableIn X.1 X.2.1 d g1 g2 ho ht (k ls H locs k9 n9 h1 h2 h3 h4 h5)
theorem V_tableOut (X : CX E Γ own cc nL) {dflt lo hi : Int} {offs : Array Int} {len : Nat} {x : Int32} (tgt : Nat) (d : decode cc pc = .ok (.tableswitch dflt lo hi offs, len)) (g : x.toInt < lo ∨ hi < x.toInt) (ht : (pc : Int) + dflt = (tgt : Int)) (k : V E Γ b h tgt lv st) : V E Γ b h pc lv (.int x :: st) :=
  fun ls H locs k9 n9 h1 h2 h3 h4 h5 => lv_tableOut X.1 X.2.1 d g ht (k ls H locs k9 n9 h1 h2 h3 h4 h5)
theorem V_ldc (X : CX E Γ own cc nL) {index : Nat} {v : Int32} (hw : Cond.constant own index v ∈ WS) (d : decode cc pc = .ok (.ldc index, 2)) (k : V E Γ b h (pc + 2) lv (.int v :: st)) : V E Γ b h pc lv st :=
  fun ls H locs k9 n9 h1 h2 h3 h4 h5 => lv_ldc X.1 X.2.1 X.2.2.2.1 (X.2.2.2.2.1 _ hw) d (k ls H locs k9 n9 h1 h2 h3 h4 h5)
theorem V_ldc2 (X : CX E Γ own cc nL) {index : Nat} {v : Int64} (hw : Cond.constantLong own index v ∈ WS) (d : decode cc pc = .ok (.ldc2_w index, 3)) (k : V E Γ b h (pc + 3) lv (.long v :: st)) : V E Γ b h pc lv st :=
  fun ls H locs k9 n9 h1 h2 h3 h4 h5 => lv_ldc2 X.1 X.2.1 X.2.2.2.1 (X.2.2.2.2.1 _ hw) d (k ls H locs k9 n9 h1 h2 h3 h4 h5)
end VR
