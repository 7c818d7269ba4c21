/-! CONTRACTS, RETURNS, CALLS, THROWS -/
def rmOf (rk b : Nat) : Room := { frames := rk, cells := b / 3, slots := 4 * b, locals := 40 * rk + 400 }
def qQ (E : EV) (Ret : Option Value → AH → Prop) : Array Value → State → Outcome → State → Prop := fun _ st oc t => (∃ (v : Option Value) (h' : AH), oc = .returned v ∧ Ret v h' ∧ HP E h' t.heap) ∧ va_F (A0 E) st t
def qX (E : EV) (Thr : String → AH → Prop) : String → State → State → Prop := fun X st t => ∃ h' : AH, Thr X h' ∧ HP E h' t.heap ∧ va_F (A0 E) st t
def qPc (E : EV) (args : List Value) (h : AH) : Array Value → State → Prop := va_Pc args (fun U => HP E h U.heap ∧ EN E U)
/-- the contract of a method, called with args in the abstract heap h: it returns v in h' with 'Ret v h'', or throws E in h' with 'Thr E h''; it makes at most b / 3 cells of 4 b slots -/
def Ct (E : EV) (y : MethodName) (cc : ByteArray) (nL : Nat) (ret : Option FieldType) (rk b : Nat) (args : List Value) (h : AH) (Ret : Option Value → AH → Prop) (Thr : String → AH → Prop) : Prop :=
  ∀ l : Launch, l.stackTraces = false → vx_Met l y (.code y cc nL ret :: WS) (rmOf rk b) (qPc E args h) (qQ E Ret) (qX E Thr) (b / 3) (4 * b) (A0 E)
def noX : String → AH → Prop := fun _ _ => False
def NT (Γ : VG) : Prop := ∀ x ∈ (gc Γ).exceptionTable.toList, False
def RQ (E : EV) (Γ : VG) (ret : Option FieldType) (rk b : Nat) (Ret : Option Value → AH → Prop) (Thr : String → AH → Prop) : Prop :=
  (gM Γ).sig.returnType = ret ∧ gR Γ = rmOf rk b ∧ gQ Γ = vx_MQ (gb Γ) (qQ E Ret) (qX E Thr) (ga Γ) (gs Γ) (b / 3) (4 * b) (A0 E)
theorem qPc_blind {E : EV} {args : List Value} {h : AH} : FrameBlind (qPc E args h) := fun a U g mk q => ⟨q.1, q.2.1, q.2.2.calling g mk a⟩
theorem Ct_of {E : EV} {y : MethodName} {cc : ByteArray} {nL : Nat} {ret : Option FieldType} {rk b : Nat} {args : List Value} {h : AH} {Ret : Option Value → AH → Prop} {Thr : String → AH → Prop} (own : String) (hy : plainName y.cls = true) (ho : y.cls = own) (hl : (lg_sl args).length ≤ nL)
    (body : ∀ Γ : VG, CX E Γ own cc nL → NT Γ → RQ E Γ ret rk b Ret Thr → (gM Γ).name = y.name → V E Γ b h 0 (lv_args 0 args) []) : Ct E y cc nL ret rk b args h Ret Thr := by
  intro l hst
  refine vx_ofW (cc := cc) (maxL := nL) (ret := ret) hy rfl ?_
  intro p e s m args' below meth c s₁ B hml ht hv
  obtain ⟨rfl, hP, hE⟩ := hv
  have hts : ∀ w ∈ (Cond.code y cc nL ret :: WS), w.before args.toArray s = true := atoms_spec (ws := Cond.code y cc nL ret :: WS) B.pre
  have hown : s.vm.findClass own = some m.cls := by rw [← ho]; exact findClass_of_methodNamed B.named
  have hnm : meth.name = y.name := (name_of_methodNamed B.named B.method).1
  have hle := lv_entry args (n := nL) hl
  rw [lg_entry_eq]
  generalize (lg_sl args ++ List.replicate (nL - (lg_sl args).length) Slot.unset).toArray = ls at hle ⊢
  exact body (p, l, e, rmOf rk b, s, m, args.toArray, below, meth, c, vx_MQ below (qQ E Ret) (qX E Thr) args.toArray s (b / 3) (4 * b) (A0 E)) ⟨B.exec, B.bytes, hml, hown, fun w hw => hts w (List.mem_cons_of_mem _ hw), hE, B.notSynchronized, hst⟩ ht ⟨B.returns, rfl, rfl⟩ hnm ls s.heap [] 0 0 (by rw [show (gc (p, l, e, rmOf rk b, s, m, args.toArray, below, meth, c, vx_MQ below (qQ E Ret) (qX E Thr) args.toArray s (b / 3) (4 * b) (A0 E))).maxLocals = c.maxLocals from rfl, hml]; exact hle) hP va_S.rf (by show 0 + b / 3 ≤ b / 3; omega) (by show 0 + 4 * b ≤ 4 * b; omega)
theorem Ct.met {E : EV} {y : MethodName} {cc : ByteArray} {nL : Nat} {ret : Option FieldType} {rk b : Nat} {args : List Value} {h : AH} {Ret : Option Value → AH → Prop} (M : Ct E y cc nL ret rk b args h Ret noX) (l : Launch) (hl : l.stackTraces = false) : Met l y (.code y cc nL ret :: WS) (rmOf rk b) (qPc E args h) (qQ E Ret) (b / 3) (4 * b) (A0 E) := by
  intro p e h1 h2 h3 s m a below h4 h5 h6 h7
  obtain ⟨n, o, g1, g2, g3, g4⟩ := M l hl p e h1 h2 h3 s m a below h4 h5 h6 h7
  rcases g4 with g4 | ⟨q, -, X, ce, L, ⟨h', f, -⟩, -⟩
  · exact ⟨n, o, g1, g2, g3, g4⟩
  · exact f.elim
theorem Ct.mono {E : EV} {y : MethodName} {cc : ByteArray} {nL : Nat} {ret : Option FieldType} {rk b : Nat} {args : List Value} {h : AH} {Ret Ret' : Option Value → AH → Prop} {Thr Thr' : String → AH → Prop} (M : Ct E y cc nL ret rk b args h Ret Thr) (hr : ∀ v h', Ret v h' → Ret' v h') (ht : ∀ X h', Thr X h' → Thr' X h') : Ct E y cc nL ret rk b args h Ret' Thr' := by
  intro l hl p e h1 h2 h3 s m a below h4 h5 h6 h7
  obtain ⟨n, o, g1, g2, g3, g4⟩ := M l hl p e h1 h2 h3 s m a below h4 h5 h6 h7
  refine ⟨n, o, g1, g2, g3, ?_⟩
  rcases g4 with ⟨⟨⟨v, h', f1, f2, f3⟩, f4⟩, f5⟩ | ⟨q, e1, X, ce, L, ⟨h', f1, f2, f3⟩, f4⟩
  · exact Or.inl ⟨⟨⟨v, h', f1, hr v h' f2, f3⟩, f4⟩, f5⟩
  · exact Or.inr ⟨q, e1, X, ce, L, ⟨h', ht X h' f1, f2, f3⟩, f4⟩
theorem HP.grow {E : EV} {h : AH} {H H1 : Heap} (hp : HP E h H) (hs : H.size ≤ H1.size) (oq : ∀ q, q < H.size → H1[q]? = H[q]?) : HP E h H1 := by
  obtain ⟨bk, mcn, p1, p2, p3⟩ := hp
  refine ⟨bk, mcn, fun a ha => ?_, fun a ha => ?_, p3⟩
  · obtain ⟨b1, b2, b3⟩ := p1 a ha
    exact ⟨b1, by omega, b3.kept (oq a b2) rfl (fun _ => rfl) rfl rfl rfl rfl⟩
  · rcases p2 a ha with z | ⟨z1, z2, z3, z4, z5, z6⟩
    · exact Or.inl z
    · exact Or.inr ⟨z1, z2, z3, z4, z5, by rw [oq _ (Array.getElem?_eq_some_iff.mp z6).1]; exact z6⟩
/-- X has been thrown over the frame at pc -/
def VX (E : EV) (Γ : VG) (b : Nat) (h : AH) (pc : Nat) (lv : List (Nat × Value)) (st : List Value) (X : String) : Prop :=
  ∀ (ls : Array Slot) (H : Heap) (locs : List Loc) (k n : Nat) (q : Addr) (ce : Cell), lv_has ls (gc Γ).maxLocals lv → HP E h H → va_S (A0 E) (gs Γ).heap H locs → k + b / 3 ≤ (gR Γ).cells → n + 4 * b ≤ (gR Γ).slots → H[q]? = some ce → ce.vm = .none → (gs Γ).vm.findClass X = some ce.cls →
    vx_W (gp Γ) (gl Γ) (ge Γ) (gR Γ) (gs Γ) (gm Γ) (ga Γ) (gb Γ) (gM Γ) (gc Γ) H locs k n (gQ Γ) (F0 (gm Γ) pc ls st) q
/-- the words of a call -/
def CWv (own : String) (index : Nat) (C : String) (y : MethodName) (bytes : ByteArray) (maxL : Nat) (ret : Option FieldType) (n : Nat) : Prop :=
  (y.cls = C ∧ y.cls ≠ "java/lang/invoke/MethodHandle" ∧ y.cls ≠ "java/lang/invoke/VarHandle" ∧ (parseMethodDescriptor y.desc).map (fun d => d.parameters.length) = some n) ∧ Cond.methodLink own index y ∈ WS ∧ Cond.instanceMethod y ∈ WS ∧ Cond.selects C y y ∈ WS ∧ Cond.initialized C ∈ WS ∧ Cond.code y bytes maxL ret ∈ WS
def CWs (own : String) (index : Nat) (y : MethodName) (bytes : ByteArray) (maxL : Nat) (ret : Option FieldType) (n : Nat) : Prop :=
  (y.cls ≠ "java/lang/invoke/MethodHandle" ∧ y.cls ≠ "java/lang/invoke/VarHandle" ∧ (parseMethodDescriptor y.desc).map (fun d => d.parameters.length) = some n) ∧ Cond.methodLink own index y ∈ WS ∧ Cond.static y ∈ WS ∧ Cond.initialized y.cls ∈ WS ∧ Cond.code y bytes maxL ret ∈ WS
def CWi (own : String) (index : Nat) (y : MethodName) (bytes : ByteArray) (maxL : Nat) (n : Nat) : Prop :=
  (y.cls ≠ "java/lang/invoke/MethodHandle" ∧ y.cls ≠ "java/lang/invoke/VarHandle" ∧ (parseMethodDescriptor y.desc).map (fun d => d.parameters.length) = some n) ∧ Cond.methodLink own index y ∈ WS ∧ Cond.instanceMethod y ∈ WS ∧ Cond.initialized y.cls ∈ WS ∧ Cond.code y bytes maxL none ∈ WS ∧ y.name = "<init>"
def CWn (own : String) (index : Nat) (y : MethodName) (host : String) (bytes : ByteArray) (maxL : Nat) (n : Nat) : Prop :=
  (y.cls ≠ "java/lang/invoke/MethodHandle" ∧ y.cls ≠ "java/lang/invoke/VarHandle" ∧ (parseMethodDescriptor y.desc).map (fun d => d.parameters.length) = some n) ∧ Cond.methodLinkNest own index y host ∈ WN ∧ Cond.instanceMethod y ∈ WS ∧ Cond.initialized y.cls ∈ WS ∧ Cond.code y bytes maxL none ∈ WS ∧ y.name = "<init>"
theorem good_WS {y : MethodName} {bytes : ByteArray} {maxL : Nat} {ret : Option FieldType} (h : Cond.code y bytes maxL ret ∈ WS) : GoodIn WS (.code y bytes maxL ret :: WS) := by
  intro w hw
  have hm : w ∈ WS := by
    rcases List.mem_cons.mp hw with e | e
    · rw [e]; exact h
    · exact e
  exact ⟨hm, good_of_word (List.mem_filter.mp hm).2⟩
section VC
variable {E : EV} {Γ : VG} {own : String} {cc : ByteArray} {nL b : Nat} {h : AH} {pc : Nat} {lv : List (Nat × Value)} {st : List Value} {ret0 : Option FieldType} {rk0 b0 : Nat} {Ret0 : Option Value → AH → Prop} {Thr0 : String → AH → Prop}
theorem V_iret (X : CX E Γ own cc nL) (Q : RQ E Γ ret0 rk0 b0 Ret0 Thr0) {ty : FieldType} {v : Int32} (hret : ret0 = some ty) (hn : narrow ty (.int v) = .int v) (d : decode cc pc = .ok (.ireturn, 1)) (hr : Ret0 (some (.int v)) h) : V E Γ b h pc lv [.int v] := by
  intro ls H locs k9 n9 h1 h2 h3 h4 h5
  obtain ⟨q1, q2, q3⟩ := Q
  rw [q2] at h4 h5
  have h4' : k9 + b / 3 ≤ b0 / 3 := h4
  have h5' : n9 + 4 * b ≤ 4 * b0 := h5
  show W _ _ _ _ _ _ _ _ _ _ _ _ _ _ (gQ Γ) _
  rw [q3]
  refine vx_ret (W.widen (k := b0 / 3) (n := 4 * b0) (by omega) (by omega) ?_)
  exact W.zret X.1 X.2.1 (q1.trans hret) hn (fun t ht hW => ⟨⟨_, h, rfl, hr, by rw [ht]; exact h2⟩, h3.F ht⟩) h3.2.2 d X.2.2.2.2.2.2.1
theorem V_vret (X : CX E Γ own cc nL) (Q : RQ E Γ ret0 rk0 b0 Ret0 Thr0) (hret : ret0 = none) (d : decode cc pc = .ok (.return_, 1)) (hr : Ret0 none h) : V E Γ b h pc lv [] := by
  intro ls H locs k9 n9 h1 h2 h3 h4 h5
  obtain ⟨q1, q2, q3⟩ := Q
  rw [q2] at h4 h5
  have h4' : k9 + b / 3 ≤ b0 / 3 := h4
  have h5' : n9 + 4 * b ≤ 4 * b0 := h5
  show W _ _ _ _ _ _ _ _ _ _ _ _ _ _ (gQ Γ) _
  rw [q3]
  refine vx_ret (W.widen (k := b0 / 3) (n := 4 * b0) (by omega) (by omega) ?_)
  exact W.vret X.1 X.2.1 (q1.trans hret) (fun t ht hW => ⟨⟨_, h, rfl, hr, by rw [ht]; exact h2⟩, h3.F ht⟩) h3.2.2 d X.2.2.2.2.2.2.1
theorem V_aret (X : CX E Γ own cc nL) (Q : RQ E Γ ret0 rk0 b0 Ret0 Thr0) {a : Nat} {C : String} (hret : ret0 = some (.object C)) (d : decode cc pc = .ok (.areturn, 1)) (hr : Ret0 (some (.ref a)) h) : V E Γ b h pc lv [.ref a] := by
  intro ls H locs k9 n9 h1 h2 h3 h4 h5
  obtain ⟨q1, q2, q3⟩ := Q
  rw [q2] at h4 h5
  have h4' : k9 + b / 3 ≤ b0 / 3 := h4
  have h5' : n9 + 4 * b ≤ 4 * b0 := h5
  show W _ _ _ _ _ _ _ _ _ _ _ _ _ _ (gQ Γ) _
  rw [q3]
  refine vx_ret (W.widen (k := b0 / 3) (n := 4 * b0) (by omega) (by omega) ?_)
  exact W.aret X.1 X.2.1 (q1.trans hret) (Or.inl ⟨C, rfl⟩) (Or.inr ⟨a, rfl⟩) (fun t ht hW => ⟨⟨_, h, rfl, hr, by rw [ht]; exact h2⟩, h3.F ht⟩) h3.2.2 d X.2.2.2.2.2.2.1
theorem V_lret (X : CX E Γ own cc nL) (Q : RQ E Γ ret0 rk0 b0 Ret0 Thr0) {v : Int64} (hret : ret0 = some .long) (d : decode cc pc = .ok (.lreturn, 1)) (hr : Ret0 (some (.long v)) h) : V E Γ b h pc lv [.long v] := by
  intro ls H locs k9 n9 h1 h2 h3 h4 h5
  obtain ⟨q1, q2, q3⟩ := Q
  rw [q2] at h4 h5
  have h4' : k9 + b / 3 ≤ b0 / 3 := h4
  have h5' : n9 + 4 * b ≤ 4 * b0 := h5
  show W _ _ _ _ _ _ _ _ _ _ _ _ _ _ (gQ Γ) _
  rw [q3]
  refine vx_ret (W.widen (k := b0 / 3) (n := 4 * b0) (by omega) (by omega) ?_)
  exact W.lret X.1 X.2.1 (q1.trans hret) (fun t ht hW => ⟨⟨_, h, rfl, hr, by rw [ht]; exact h2⟩, h3.F ht⟩) h3.2.2 d X.2.2.2.2.2.2.1
theorem V_fret (X : CX E Γ own cc nL) (Q : RQ E Γ ret0 rk0 b0 Ret0 Thr0) {v : UInt32} (hret : ret0 = some .float) (d : decode cc pc = .ok (.freturn, 1)) (hr : Ret0 (some (.float v)) h) : V E Γ b h pc lv [.float v] := by
  intro ls H locs k9 n9 h1 h2 h3 h4 h5
  obtain ⟨q1, q2, q3⟩ := Q
  rw [q2] at h4 h5
  have h4' : k9 + b / 3 ≤ b0 / 3 := h4
  have h5' : n9 + 4 * b ≤ 4 * b0 := h5
  show W _ _ _ _ _ _ _ _ _ _ _ _ _ _ (gQ Γ) _
  rw [q3]
  refine vx_ret (W.widen (k := b0 / 3) (n := 4 * b0) (by omega) (by omega) ?_)
  exact W.fret X.1 X.2.1 (q1.trans hret) (fun t ht hW => ⟨⟨_, h, rfl, hr, by rw [ht]; exact h2⟩, h3.F ht⟩) h3.2.2 d X.2.2.2.2.2.2.1
theorem V_dret (X : CX E Γ own cc nL) (Q : RQ E Γ ret0 rk0 b0 Ret0 Thr0) {v : UInt64} (hret : ret0 = some .double) (d : decode cc pc = .ok (.dreturn, 1)) (hr : Ret0 (some (.double v)) h) : V E Γ b h pc lv [.double v] := by
  intro ls H locs k9 n9 h1 h2 h3 h4 h5
  obtain ⟨q1, q2, q3⟩ := Q
  rw [q2] at h4 h5
  have h4' : k9 + b / 3 ≤ b0 / 3 := h4
  have h5' : n9 + 4 * b ≤ 4 * b0 := h5
  show W _ _ _ _ _ _ _ _ _ _ _ _ _ _ (gQ Γ) _
  rw [q3]
  refine vx_ret (W.widen (k := b0 / 3) (n := 4 * b0) (by omega) (by omega) ?_)
  exact W.dret X.1 X.2.1 (q1.trans hret) (fun t ht hW => ⟨⟨_, h, rfl, hr, by rw [ht]; exact h2⟩, h3.F ht⟩) h3.2.2 d X.2.2.2.2.2.2.1
/-- an exception leaves the method -/
theorem VX_out (X : CX E Γ own cc nL) (Q : RQ E Γ ret0 rk0 b0 Ret0 Thr0) (nt : NT Γ) {N : String} (ht : Thr0 N h) : VX E Γ b h pc lv st N := by
  intro ls H locs k9 n9 q ce h1 h2 h3 h4 h5 h6 h7 h8
  obtain ⟨q1, q2, q3⟩ := Q
  rw [q2] at h4 h5
  have h4' : k9 + b / 3 ≤ b0 / 3 := h4
  have h5' : n9 + 4 * b ≤ 4 * b0 := h5
  rw [q3]
  exact vx_out (E := N) (fun x hx => (nt x hx).elim) X.2.2.2.2.2.2.1 h6 h7 h8 (fun t ht1 hal => ⟨h, ht, by rw [ht1]; exact h2, h3.F ht1⟩) h3.2.2 (by omega) (by omega)
/-- behind a run of a callee: what came back -/
theorem V_back (X : CX E Γ own cc nL) {mc : Nat} {Ret : Option Value → AH → Prop} {Thr : String → AH → Prop} {a : Array Value} {st0 : List Value} (hb : mc ≤ b)
    (hr : ∀ (ls : Array Slot) (H : Heap) (locs : List Loc) (k n : Nat), lv_has ls (gc Γ).maxLocals lv → HP E h H → va_S (A0 E) (gs Γ).heap H locs → k + b / 3 ≤ (gR Γ).cells → n + 4 * b ≤ (gR Γ).slots → vx_Run (gp Γ) (gl Γ) (ge Γ) (gR Γ) (gs Γ) (gm Γ) (ga Γ) (gb Γ) (gM Γ) (gc Γ) H locs k n (mc / 3) (4 * mc) (F0 (gm Γ) pc ls st0) st (qQ E Ret a) (qX E Thr) (A0 E))
    (kx : ∀ (N : String) (h' : AH), Thr N h' → VX E Γ (b - mc) h' pc lv st N)
    (kk : ∀ (v : Option Value) (h' : AH), Ret v h' → V E Γ (b - mc) h' (pc + 3) lv (v.toList ++ st)) : V E Γ b h pc lv st0 := by
  intro ls H locs k9 n9 h1 h2 h3 h4 h5 T hT Y
  have hA : ∀ q, q < H.size → A0 E q → A0 E q := fun _ _ z => z
  rcases hr ls H locs k9 n9 h1 h2 h3 h4 h5 T hT Y with ⟨v, st₀, t, T', L, h0, X', hL, e1, e2, ⟨⟨v', h', hv, hR, hP⟩, hF⟩, stp⟩ | ⟨q, st₀, t, T', L, N, ce, h0, X', hL, e1, e2, ⟨h', hR, hP, hF⟩, hce, hcv, hcl, stp⟩
  · cases hv
    obtain ⟨z1, z2, z3⟩ := vx_keep h0 e1 h3 hA (fun _ z => z) hL hF
    obtain ⟨t2, a1, b1⟩ := kk v h' hR ls T'.heap (locs ++ L) (k9 + mc / 3) (n9 + 4 * mc) h1 (by rw [e1]; exact hP) z3 (by omega) (by omega) T' rfl X'
    exact ⟨t2, stp t2 a1, b1⟩
  · obtain ⟨z1, z2, z3⟩ := vx_keep h0 e1 h3 hA (fun _ z => z) hL hF
    obtain ⟨t2, a1, b1⟩ := kx N h' hR ls T'.heap (locs ++ L) (k9 + mc / 3) (n9 + 4 * mc) q ce h1 (by rw [e1]; exact hP) z3 (by omega) (by omega) (by rw [e1]; exact hce) hcv hcl T' rfl X'
    exact ⟨t2, stp.trans a1, b1⟩
/-- a run of a method that throws nothing is such a run -/
theorem run_of {p : Program} {l : Launch} {e : Env} {R : Room} {s : State} {m : MethodId} {args : Array Value} {below : List Frame} {meth : Method} {c : Code} {H : Heap} {locs : List Loc} {cells slots mc ms : Nat} {g : JFrame} {rest : List Value} {Qa : State → Outcome → State → Prop} {XC : String → State → State → Prop} {free : Addr → Prop}
    (hr : va_Run p l e R s m args below meth c H locs cells slots mc ms g rest Qa free) : vx_Run p l e R s m args below meth c H locs cells slots mc ms g rest Qa XC free := fun T hT X => Or.inl (hr T hT X)
section
variable {y : MethodName} {bytes : ByteArray} {maxL : Nat} {ret : Option FieldType} {rk mc : Nat} {Ret : Option Value → AH → Prop} {Thr : String → AH → Prop} {As st0 : List Value} {a index n : Nat}
/-- a call of an instance method of a class of ours -/
theorem V_callV (X : CX E Γ own cc nL) {ci N : Nat} {C : String} {T : u_T} {ty0 : Nat → FieldType} (c : CLK ci C T N ty0) (hci : ci ≤ 9) (hk : qK h a = ci + 1) (As : List Value) (M : Ct E y bytes maxL ret rk mc (.ref a :: As) h Ret Thr) (cw : CWv own index C y bytes maxL ret n) (hR : rk + 1 ≤ (gR Γ).frames ∧ 419 + maxL + 40 * rk ≤ (gR Γ).locals) (hn : As.length = n) (hc : (st.map fun v => v.category).sum ≤ 8) (hs : st0 = As.reverse ++ .ref a :: st) (hb : mc ≤ b) (d : decode cc pc = .ok (.invokevirtual index, 3))
    (kx : ∀ (N : String) (h' : AH), Thr N h' → VX E Γ (b - mc) h' pc lv st N)
    (kk : ∀ (v : Option Value) (h' : AH), Ret v h' → V E Γ (b - mc) h' (pc + 3) lv (v.toList ++ st)) : V E Γ b h pc lv st0 := by
  refine V_back (a := (Value.ref a :: As).toArray) X hb (fun ls H locs k9 n9 h1 h2 h3 h4 h5 => ?_) kx kk
  obtain ⟨cell, q1, q2, q3, q4⟩ := h2.obj hk hci
  have hKn := X.en.1.1 _ _ c.1
  obtain ⟨w0, w1, w2, w3, w4, w5⟩ := cw
  have hG : GoodIn WS (wsV own index C y (.code y bytes maxL ret :: WS)) := by
    intro w hw
    unfold wsV at hw
    rcases List.mem_append.mp hw with hw | hw
    · have hm : w ∈ WS := by
        simp only [List.mem_cons, List.not_mem_nil, or_false] at hw
        rcases hw with rfl | rfl | rfl | rfl <;> assumption
      exact ⟨hm, good_of_word (List.mem_filter.mp hm).2⟩
    · exact good_WS w5 w hw
  refine vx_runV (nL := nL) ⟨X.1, X.2.1, X.2.2.1, X.ow, X.ts⟩ (M _ X.2.2.2.2.2.2.2) (cwV n X.ts hG rfl rfl rfl w0 ⟨hR.1, ?_⟩) ⟨qPc_blind, ⟨cell, q1, by rw [q3]; rfl, by rw [q2]; exact hKn.2.1⟩, fun U hU hW => ⟨rfl, by rw [hU]; exact h2, X.en.call h3 hU hW⟩⟩ rfl hn (h1.1.trans X.2.2.1) hs (by rw [show (F0 (gm Γ) pc ls st0).monitorRoom = 0 from rfl]; omega) d ⟨by omega, by omega⟩
  show 8 + (maxL + 11) + (40 * rk + 400) ≤ _
  omega
theorem V_callS (X : CX E Γ own cc nL) (As : List Value) (M : Ct E y bytes maxL ret rk mc As h Ret Thr) (cw : CWs own index y bytes maxL ret n) (hR : rk + 1 ≤ (gR Γ).frames ∧ 419 + maxL + 40 * rk ≤ (gR Γ).locals) (hn : As.length = n) (hc : (st.map fun v => v.category).sum ≤ 8) (hs : st0 = As.reverse ++ st) (hb : mc ≤ b) (d : decode cc pc = .ok (.invokestatic index, 3))
    (kx : ∀ (N : String) (h' : AH), Thr N h' → VX E Γ (b - mc) h' pc lv st N)
    (kk : ∀ (v : Option Value) (h' : AH), Ret v h' → V E Γ (b - mc) h' (pc + 3) lv (v.toList ++ st)) : V E Γ b h pc lv st0 := by
  refine V_back (a := As.toArray) X hb (fun ls H locs k9 n9 h1 h2 h3 h4 h5 => ?_) kx kk
  obtain ⟨w0, w1, w2, w3, w4⟩ := cw
  refine vx_runS (nL := nL) (n := n) ⟨X.1, X.2.1, X.2.2.1, X.ow, X.ts⟩ (M _ X.2.2.2.2.2.2.2) ⟨callB_of n X.ts (good_WS w4) rfl rfl rfl (X.ts _ w3) (X.ts _ w1) w0 ⟨hR.1, ?_⟩, X.ts _ w2⟩ ⟨qPc_blind, fun U hU hW => ⟨rfl, by rw [hU]; exact h2, X.en.call h3 hU hW⟩⟩ rfl hn (h1.1.trans X.2.2.1) hs (by rw [show (F0 (gm Γ) pc ls st0).monitorRoom = 0 from rfl]; omega) d ⟨by omega, by omega⟩
  show 8 + (maxL + 11) + (40 * rk + 400) ≤ _
  omega
theorem V_callI (X : CX E Γ own cc nL) (As : List Value) (M : Ct E y bytes maxL none rk mc (.ref a :: As) h Ret noX) (cw : CWi own index y bytes maxL n) (hR : rk + 1 ≤ (gR Γ).frames ∧ 419 + maxL + 40 * rk ≤ (gR Γ).locals) (hn : As.length = n) (hc : (st.map fun v => v.category).sum ≤ 8) (hs : st0 = As.reverse ++ .ref a :: st) (hb : mc ≤ b) (d : decode cc pc = .ok (.invokespecial index, 3))
    (kk : ∀ (v : Option Value) (h' : AH), Ret v h' → V E Γ (b - mc) h' (pc + 3) lv (v.toList ++ st)) : V E Γ b h pc lv st0 := by
  refine V_back (a := (Value.ref a :: As).toArray) (Thr := noX) X hb (fun ls H locs k9 n9 h1 h2 h3 h4 h5 => ?_) (fun _ _ z => z.elim) kk
  obtain ⟨w0, w1, w2, w3, w4, w5⟩ := cw
  refine run_of (va_runI (nL := nL) (n := n) ⟨X.1, X.2.1, X.2.2.1, X.ow, X.ts⟩ (M.met _ X.2.2.2.2.2.2.2) (cwI n X.ts (good_WS w4) rfl rfl rfl (X.ts _ w3) (X.ts _ w1) (X.ts _ w2) w5 w0 ⟨hR.1, ?_⟩) ⟨qPc_blind, fun U hU hW => ⟨rfl, by rw [hU]; exact h2, X.en.call h3 hU hW⟩⟩ rfl hn (h1.1.trans X.2.2.1) hs (by rw [show (F0 (gm Γ) pc ls st0).monitorRoom = 0 from rfl]; omega) d ⟨by omega, by omega⟩)
  show 8 + (maxL + 11) + (40 * rk + 400) ≤ _
  omega
theorem V_callN (X : CX E Γ own cc nL) {host : String} (As : List Value) (M : Ct E y bytes maxL none rk mc (.ref a :: As) h Ret noX) (cw : CWn own index y host bytes maxL n) (hR : rk + 1 ≤ (gR Γ).frames ∧ 419 + maxL + 40 * rk ≤ (gR Γ).locals) (hn : As.length = n) (hc : (st.map fun v => v.category).sum ≤ 8) (hs : st0 = As.reverse ++ .ref a :: st) (hb : mc ≤ b) (d : decode cc pc = .ok (.invokespecial index, 3))
    (kk : ∀ (v : Option Value) (h' : AH), Ret v h' → V E Γ (b - mc) h' (pc + 3) lv (v.toList ++ st)) : V E Γ b h pc lv st0 := by
  refine V_back (a := (Value.ref a :: As).toArray) (Thr := noX) X hb (fun ls H locs k9 n9 h1 h2 h3 h4 h5 => ?_) (fun _ _ z => z.elim) kk
  obtain ⟨w0, w1, w2, w3, w4, w5⟩ := cw
  refine run_of (va_runIN (nL := nL) (n := n) ⟨X.1, X.2.1, X.2.2.1, X.ow, X.ts⟩ (M.met _ X.2.2.2.2.2.2.2) ⟨va_cnB n X.ts (good_WS w4) rfl rfl rfl (X.en.2.2.2.2.2.1 _ w1) (X.ts _ w3) w0 ⟨hR.1, ?_⟩, w5, X.ts _ w2⟩ ⟨qPc_blind, fun U hU hW => ⟨rfl, by rw [hU]; exact h2, X.en.call h3 hU hW⟩⟩ rfl hn (h1.1.trans X.2.2.1) hs (by rw [show (F0 (gm Γ) pc ls st0).monitorRoom = 0 from rfl]; omega) d ⟨by omega, by omega⟩)
  show 8 + (maxL + 11) + (40 * rk + 400) ≤ _
  omega
end
theorem V_objInit (X : CX E Γ own cc nL) {index a : Nat} (hw : Cond.methodLink own index Lib.objectInit ∈ WS ∧ Cond.instanceMethod Lib.objectInit ∈ WS ∧ Cond.code Lib.objectInit ⟨#[0xb1]⟩ 1 none ∈ WS) (hR : 1 ≤ (gR Γ).frames ∧ 20 ≤ (gR Γ).locals) (hc : (st.map fun v => v.category).sum ≤ 8) (d : decode cc pc = .ok (.invokespecial index, 3)) (k : V E Γ b h (pc + 3) lv st) : V E Γ b h pc lv (.ref a :: st) := by
  intro ls H locs k9 n9 h1 h2 h3 h4 h5
  exact W.objInit X.1 X.2.1 X.ow (X.ts _ hw.1) (X.ts _ hw.2.1) (X.ts _ hw.2.2) rfl h1.1 rfl d hR.1 (by rw [show (F0 (gm Γ) pc ls (Value.ref a :: st)).monitorRoom = 0 from rfl]; omega) (k ls H locs k9 n9 h1 h2 h3 h4 h5)
/-- 'throw new N("text")' -/
def TWd (own : String) (ik : Nat) (is : Nat) (ic : Nat) (N text : String) : Prop :=
  Bundle.fit N = true ∧ Cond.classLink own ik N ∈ WS ∧ Cond.initialized N ∈ WS ∧ (own, is, text) ∈ qStr ∧ (∀ w ∈ vx_atS own ic N ["java/lang/RuntimeException", "java/lang/Exception"], w ∈ WS ∨ w ∈ WN)
theorem V_throw (X : CX E Γ own cc nL) (Q : RQ E Γ ret0 rk0 b0 Ret0 Thr0) (nt : NT Γ) {ik is ic : Nat} {N text : String} (tw : TWd own ik is ic N text) (d0 : decode cc pc = .ok (.new ik, 3)) (d3 : decode cc (pc + 3) = .ok (.dup, 1)) (d4 : decode cc (pc + 4) = .ok (.ldc is, 2)) (d6 : decode cc (pc + 6) = .ok (.invokespecial ic, 3)) (d9 : decode cc (pc + 9) = .ok (.athrow, 1))
    (hrk : 6 ≤ rk0) (hc : (st.map fun v => v.category).sum ≤ 8) (hb : 3 ≤ b) (ht : Thr0 N h) : V E Γ b h pc lv st := by
  intro ls H locs k9 n9 h1 h2 h3 h4 h5
  obtain ⟨t1, t2, t3, t4, t5⟩ := tw
  obtain ⟨q1, q2, q3⟩ := Q
  obtain ⟨sa, hsa⟩ := X.en.2.2.2.2.2.2.1 _ t4
  rw [q2] at h4 h5
  have h4' : k9 + b / 3 ≤ b0 / 3 := h4
  have h5' : n9 + 4 * b ≤ 4 * b0 := h5
  have wn_b : ∀ w ∈ WN, w.before (ga Γ) (gs Γ) = true := fun w hw => by
    have hg := (List.mem_filter.mp hw).2
    have hz := X.en.2.2.2.2.2.1 w hw
    cases w <;> first | exact va_Nw.use rfl hz | (simp [nestW] at hg)
  have ot : ∀ w, w ∈ WS ∨ w ∈ WN → vx_ot w = true := by
    intro w hw
    unfold vx_ot
    rcases hw with hw | hw
    · rw [(List.mem_filter.mp hw).2]; simp
    · have hg := (List.mem_filter.mp hw).2
      cases w <;> first | rfl | (simp [nestW] at hg)
  show W _ _ _ _ _ _ _ _ _ _ _ _ _ _ (gQ Γ) _
  rw [q3]
  refine vx_throwS (A := A0 E) (names := ["java/lang/RuntimeException", "java/lang/Exception"]) X.1 X.2.1 X.2.2.2.2.2.2.2 X.ow t1 (by decide +kernel) (X.ts _ t2) (X.ts _ t3) hsa (fun w hw => (t5 w hw).elim (fun z => X.ts w z) (fun z => wn_b w z)) (fun w hw => ?_) X.en.2.2.2.1 X.en.2.2.2.2.1 h3 h1.1 d0 d3 d4 d6 d9 (fun x hx => (nt x hx).elim) (by rw [q2]; show 2 + 3 < rk0; omega) (by rw [q2]; show _ + (13 * (2 + 1) + 43) ≤ 40 * rk0 + 400; omega) (by rw [q2]; show k9 + 1 ≤ b0 / 3; omega) (by rw [q2]; show n9 + 6 ≤ 4 * b0; omega) X.2.2.2.2.2.2.1 (fun t hal z1 z2 => ⟨h, ht, h2.grow z1 z2, ?_⟩) h3.2.2 (by omega) (by omega)
  · rcases List.mem_cons.mp hw with rfl | hw
    · exact ot _ (Or.inl t2)
    · rcases List.mem_cons.mp hw with rfl | hw
      · exact ot _ (Or.inl t3)
      · exact ot _ (t5 w hw)
  · exact ⟨Nat.le_trans h3.1 z1, fun q g1 g2 => (z2 q (Nat.lt_of_lt_of_le g1 h3.1)).trans (h3.2.1 q g1 g2)⟩
theorem V_throwW (X : CX E Γ own cc nL) (Q : RQ E Γ ret0 rk0 b0 Ret0 Thr0) (nt : NT Γ) {ik is ic : Nat} {N text : String} (tw : TWd own ik is ic N text) (d0 : decode cc pc = .ok (.new ik, 3)) (d3 : decode cc (pc + 3) = .ok (.dup, 1)) (d4 : decode cc (pc + 4) = .ok (.ldc_w is, 3)) (d6 : decode cc (pc + 7) = .ok (.invokespecial ic, 3)) (d9 : decode cc (pc + 10) = .ok (.athrow, 1))
    (hrk : 6 ≤ rk0) (hc : (st.map fun v => v.category).sum ≤ 8) (hb : 3 ≤ b) (ht : Thr0 N h) : V E Γ b h pc lv st := by
  intro ls H locs k9 n9 h1 h2 h3 h4 h5
  obtain ⟨t1, t2, t3, t4, t5⟩ := tw
  obtain ⟨q1, q2, q3⟩ := Q
  obtain ⟨sa, hsa⟩ := X.en.2.2.2.2.2.2.1 _ t4
  rw [q2] at h4 h5
  have h4' : k9 + b / 3 ≤ b0 / 3 := h4
  have h5' : n9 + 4 * b ≤ 4 * b0 := h5
  have wn_b : ∀ w ∈ WN, w.before (ga Γ) (gs Γ) = true := fun w hw => by
    have hg := (List.mem_filter.mp hw).2
    have hz := X.en.2.2.2.2.2.1 w hw
    cases w <;> first | exact va_Nw.use rfl hz | (simp [nestW] at hg)
  have ot : ∀ w, w ∈ WS ∨ w ∈ WN → vx_ot w = true := by
    intro w hw
    unfold vx_ot
    rcases hw with hw | hw
    · rw [(List.mem_filter.mp hw).2]; simp
    · have hg := (List.mem_filter.mp hw).2
      cases w <;> first | rfl | (simp [nestW] at hg)
  show W _ _ _ _ _ _ _ _ _ _ _ _ _ _ (gQ Γ) _
  rw [q3]
  refine vx_throwSW (A := A0 E) (names := ["java/lang/RuntimeException", "java/lang/Exception"]) X.1 X.2.1 X.2.2.2.2.2.2.2 X.ow t1 (by decide +kernel) (X.ts _ t2) (X.ts _ t3) hsa (fun w hw => (t5 w hw).elim (fun z => X.ts w z) (fun z => wn_b w z)) (fun w hw => ?_) X.en.2.2.2.1 X.en.2.2.2.2.1 h3 h1.1 d0 d3 d4 d6 d9 (fun x hx => (nt x hx).elim) (by rw [q2]; show 2 + 3 < rk0; omega) (by rw [q2]; show _ + (13 * (2 + 1) + 43) ≤ 40 * rk0 + 400; omega) (by rw [q2]; show k9 + 1 ≤ b0 / 3; omega) (by rw [q2]; show n9 + 6 ≤ 4 * b0; omega) X.2.2.2.2.2.2.1 (fun t hal z1 z2 => ⟨h, ht, h2.grow z1 z2, ?_⟩) h3.2.2 (by omega) (by omega)
  · rcases List.mem_cons.mp hw with rfl | hw
    · exact ot _ (Or.inl t2)
    · rcases List.mem_cons.mp hw with rfl | hw
      · exact ot _ (Or.inl t3)
      · exact ot _ (t5 w hw)
  · exact ⟨Nat.le_trans h3.1 z1, fun q g1 g2 => (z2 q (Nat.lt_of_lt_of_le g1 h3.1)).trans (h3.2.1 q g1 g2)⟩
end VC
