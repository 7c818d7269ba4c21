/-! THE LAW'S OWN METHODS: they call one of the class's and catch what it throws -/
def nxP : List (String × String) := [("java/lang/IllegalArgumentException", "java/lang/IndexOutOfBoundsException"), ("java/lang/IllegalStateException", "java/lang/IndexOutOfBoundsException"), ("java/lang/IllegalStateException", "java/lang/IllegalArgumentException"), ("java/util/NoSuchElementException", "java/lang/IndexOutOfBoundsException"), ("java/lang/IllegalStateException", "java/util/NoSuchElementException"), ("java/lang/ArithmeticException", "java/lang/IndexOutOfBoundsException"), ("java/lang/IndexOutOfBoundsException", "java/util/NoSuchElementException")]
/-- which exceptions are none of which -/
def XN (s : State) : Prop := ∀ q ∈ nxP, va_Nc q.1 q.2 s
theorem XN.moved {s U : State} (hv : s.vm.Alike U.vm) (h : XN s) : XN U := fun q hq => va_Nc.moved hv (h q hq)
def qPw (E : EV) (args : List Value) (h : AH) : Array Value → State → Prop := va_Pc args (fun U => HP E h U.heap ∧ EN E U ∧ XN U)
theorem qPw_blind {E : EV} {args : List Value} {h : AH} : FrameBlind (qPw E args h) := fun a U g mk q => ⟨q.1, q.2.1, q.2.2.1.calling g mk a, XN.moved (U := U.calling g mk a) (Vm.Alike.refl U.vm) q.2.2.2⟩
/-- the contract of such a method -/
def CtW (E : EV) (y : MethodName) (cc : ByteArray) (nL : Nat) (ret : Option FieldType) (hh : List (Nat × Nat × Nat × Nat)) (rk b : Nat) (args : List Value) (h : AH) (Ret : Option Value → AH → Prop) : Prop :=
  ∀ l : Launch, l.stackTraces = false → Met l y (.codeWith y cc nL ret hh :: WS) (rmOf rk b) (qPw E args h) (qQ E Ret) (b / 3) (4 * b) (A0 E)
theorem CtW_of {E : EV} {y : MethodName} {cc : ByteArray} {nL : Nat} {ret : Option FieldType} {hh : List (Nat × Nat × Nat × Nat)} {rk b : Nat} {args : List Value} {h : AH} {Ret : Option Value → AH → Prop} (own : String) (hy : plainName y.cls = true) (ho : y.cls = own) (hl : (lg_sl args).length ≤ nL)
    (body : ∀ Γ : VG, CX E Γ own cc nL → (gc Γ).exceptionTable.toList = tableOf hh → XN (gs Γ) → RQ E Γ ret rk b Ret noX → V E Γ b h 0 (lv_args 0 args) []) : CtW E y cc nL ret hh rk b args h Ret := by
  intro l hst
  have M : vx_Met l y (.codeWith y cc nL ret hh :: WS) (rmOf rk b) (qPw E args h) (qQ E Ret) (qX E noX) (b / 3) (4 * b) (A0 E) := by
    refine vx_ofWH (cc := cc) (maxL := nL) (ret := ret) (hh := hh) hy rfl ?_
    intro p e s m args' below meth c s₁ B hml hv
    obtain ⟨rfl, hP, hE, hX⟩ := hv
    have hts : ∀ w ∈ (Cond.codeWith y cc nL ret hh :: WS), w.before args.toArray s = true := atoms_spec (ws := Cond.codeWith y cc nL ret hh :: WS) B.pre
    have ht := vx_table (x := y) B (hts _ List.mem_cons_self)
    have hown : s.vm.findClass own = some m.cls := by rw [← ho]; exact findClass_of_methodNamed B.named
    have hle := lv_entry args (n := nL) hl
    rw [lg_entry_eq]
    generalize (lg_sl args ++ List.replicate (nL - (lg_sl args).length) Slot.unset).toArray = ls at hle ⊢
    exact body (p, l, e, rmOf rk b, s, m, args.toArray, below, meth, c, vx_MQ below (qQ E Ret) (qX E noX) args.toArray s (b / 3) (4 * b) (A0 E)) ⟨B.exec, B.bytes, hml, hown, fun w hw => hts w (List.mem_cons_of_mem _ hw), hE, B.notSynchronized, hst⟩ ht hX ⟨B.returns, rfl, rfl⟩ ls s.heap [] 0 0 (by rw [show (gc (p, l, e, rmOf rk b, s, m, args.toArray, below, meth, c, vx_MQ below (qQ E Ret) (qX E noX) args.toArray s (b / 3) (4 * b) (A0 E))).maxLocals = c.maxLocals from rfl, hml]; exact hle) hP va_S.rf (by show 0 + b / 3 ≤ b / 3; omega) (by show 0 + 4 * b ≤ 4 * b; omega)
  intro p e h1 h2 h3 s m a below h4 h5 h6 h7
  obtain ⟨n, o, g1, g2, g3, g4⟩ := M p e h1 h2 h3 s m a below h4 h5 h6 h7
  rcases g4 with g4 | ⟨q, -, X, ce, L, ⟨h', f, -⟩, -⟩
  · exact ⟨n, o, g1, g2, g3, g4⟩
  · exact f.elim
section VW
variable {E : EV} {Γ : VG} {own : String} {cc : ByteArray} {nL b : Nat} {h : AH} {pc : Nat} {lv : List (Nat × Value)} {st : List Value}
/-- caught by the row x of the method's table -/
theorem VX_h (X : CX E Γ own cc nL) (nx : XN (gs Γ)) {hh : List (Nat × Nat × Nat × Nat)} (ht : (gc Γ).exceptionTable.toList = tableOf hh) (pre : List (Nat × Nat × Nat × Nat)) (x : Nat × Nat × Nat × Nat) (suf : List (Nat × Nat × Nat × Nat)) {N : String} (hs : hh = pre ++ x :: suf) (hp : ∀ z ∈ pre, z.2.2.2 ≠ 0 ∧ ∃ nm, Cond.classLink own z.2.2.2 nm ∈ WS ∧ (N, nm) ∈ nxP) (hx : x.1 ≤ pc ∧ pc < x.2.1) (h0 : x.2.2.2 ≠ 0) (hl : Cond.classLink own x.2.2.2 N ∈ WS) (hc : Cond.castable N N ∈ WN)
    (kk : ∀ q, V E Γ b h x.2.2.1 lv [.ref q]) : VX E Γ b h pc lv st N := by
  intro ls H locs k9 n9 q ce h1 h2 h3 h4 h5 h6 h7 h8
  refine vx_catch X.ow (tableOf pre) ⟨x.1, x.2.1, x.2.2.1, x.2.2.2⟩ (tableOf suf) (by rw [ht, hs]; unfold tableOf; rw [List.map_append]; rfl) (fun z hz => ?_) ?_ h0 (X.ts _ hl) (va_Nw.use rfl (X.en.2.2.2.2.2.1 _ hc)) h6 h7 h8 (kk q ls H locs k9 n9 h1 h2 h3 h4 h5)
  · obtain ⟨z0, hz0, rfl⟩ := List.mem_map.mp hz
    obtain ⟨c0, nm, c1, c2⟩ := hp z0 hz0
    exact Or.inr ⟨c0, nm, X.ts _ c1, nx _ c2⟩
  · show (decide _ && decide _) = true
    rw [decide_eq_true hx.1, decide_eq_true hx.2]; rfl
/-- a call of such a method -/
theorem V_callW (X : CX E Γ own cc nL) (nx : XN (gs Γ)) {y : MethodName} {bytes : ByteArray} {maxL : Nat} {ret : Option FieldType} {hh : List (Nat × Nat × Nat × Nat)} {rk mc index n : Nat} {Ret : Option Value → AH → Prop} {st0 : List Value} (As : List Value) (M : CtW E y bytes maxL ret hh rk mc As h Ret) (cw : CWw own index y bytes maxL ret hh n) (hR : rk + 1 ≤ (gR Γ).frames ∧ 419 + maxL + 40 * rk ≤ (gR Γ).locals) (hn : As.length = n) (hc : (st.map fun v => v.category).sum ≤ 8) (hs : st0 = As.reverse ++ st) (hb : mc ≤ b) (d : decode cc pc = .ok (.invokestatic index, 3))
    (kk : ∀ (v : Option Value) (h' : AH), Ret v h' → V E Γ (b - mc) h' (pc + 3) lv (v.toList ++ st)) : V E Γ b h pc lv st0 := by
  refine V_back (a := As.toArray) (Thr := noX) X hb (fun ls H locs k9 n9 h1 h2 h3 h4 h5 => ?_) (fun _ _ z => z.elim) kk
  obtain ⟨w0, w1, w2, w3, w4⟩ := cw
  have hG : GoodIn WS (va_wsS own index y (.codeWith y bytes maxL ret hh :: WS)) := by
    intro w hw
    unfold va_wsS at hw
    have hm : w ∈ WS := by
      rcases List.mem_append.mp hw with hw | hw
      · simp only [List.mem_cons, List.not_mem_nil, or_false] at hw
        rcases hw with rfl | rfl | rfl <;> assumption
      · rcases List.mem_cons.mp hw with rfl | hw
        · exact w4
        · exact hw
    exact ⟨hm, good_of_word (List.mem_filter.mp hm).2⟩
  refine run_of (vx_runSW (nL := nL) ⟨X.1, X.2.1, X.2.2.1, X.ow, X.ts⟩ (M _ X.2.2.2.2.2.2.2) (vx_cwSW n X.ts hG rfl rfl rfl w0 ⟨hR.1, ?_⟩) ⟨qPw_blind, fun U hU hW => ⟨rfl, by rw [hU]; exact h2, X.en.call h3 hU hW, nx.moved hW.alike⟩⟩ rfl hn (h1.1.trans X.2.2.1) hs (by rw [show (F0 (gm Γ) pc ls st0).monitorRoom = 0 from rfl]; omega) d ⟨by omega, by omega⟩)
  show 8 + (maxL + 11) + (40 * rk + 400) ≤ _
  omega
/-- the script -/
theorem V_sld (X : CX E Γ own cc nL) {b0 L : Nat} {xs : Nat → Int32} (hX : va_X b0 L xs (gs Γ) (gs Γ).heap) (hbl : b0 < (gs Γ).heap.size) (hbA : ¬ A0 E b0) {i : Int32} (hin : vp_in i L) (d : decode cc pc = .ok (.iaload, 1)) (k : V E Γ b h (pc + 1) lv (.int (xs i.toNatClampNeg) :: st)) : V E Γ b h pc lv (.int i :: .ref b0 :: st) :=
  fun ls H locs k9 n9 h1 h2 h3 h4 h5 => va_sld X.1 X.2.1 hX hbl hbA h3 hin d (k ls H locs k9 n9 h1 h2 h3 h4 h5)
theorem V_slen (X : CX E Γ own cc nL) {b0 L : Nat} {xs : Nat → Int32} (hX : va_X b0 L xs (gs Γ) (gs Γ).heap) (hbl : b0 < (gs Γ).heap.size) (hbA : ¬ A0 E b0) (d : decode cc pc = .ok (.arraylength, 1)) (k : V E Γ b h (pc + 1) lv (.int (Int32.ofNat L) :: st)) : V E Γ b h pc lv (.ref b0 :: st) :=
  fun ls H locs k9 n9 h1 h2 h3 h4 h5 => va_slen X.1 X.2.1 hX hbl hbA h3 d (k ls H locs k9 n9 h1 h2 h3 h4 h5)
theorem V_swOut (X : CX E Γ own cc nL) {dflt lo hi : Int} {offs : Array Int} {len : Nat} {x : Int32} (tgt : Nat) (d : decode cc pc = .ok (.tableswitch dflt lo hi offs, len)) (hx : x.toInt < lo ∨ hi < x.toInt) (ht : (pc : Int) + dflt = (tgt : Int)) (k : V E Γ b h tgt lv st) : V E Γ b h pc lv (.int x :: st) :=
  fun ls H locs k9 n9 h1 h2 h3 h4 h5 => lv_tableOut X.1 X.2.1 d hx ht (k ls H locs k9 n9 h1 h2 h3 h4 h5)
theorem V_swIn (X : CX E Γ own cc nL) {dflt lo hi : Int} {offs : Array Int} {len : Nat} {x : Int32} {off : Int} (tgt : Nat) (d : decode cc pc = .ok (.tableswitch dflt lo hi offs, len)) (g1 : ¬ x.toInt < lo) (g2 : ¬ hi < x.toInt) (ho : offs[(x.toInt - lo).toNat]? = some off) (ht : (pc : Int) + off = (tgt : Int)) (k : V E Γ b h tgt lv st) : V E Γ b h pc lv (.int x :: st) :=
  fun ls H locs k9 n9 h1 h2 h3 h4 h5 => lv_tableIn X.1 X.2.1 d g1 g2 ho ht (k ls H locs k9 n9 h1 h2 h3 h4 h5)
end VW
