theorem dJxc12de_init_da8c8_0 : decode cJxc12de_init_da8c8 0 = .ok (.aload_n 0, 1) := by decide +kernel
theorem dJxc12de_init_da8c8_1 : decode cJxc12de_init_da8c8 1 = .ok (.invokespecial 1, 3) := by decide +kernel
theorem dJxc12de_init_da8c8_4 : decode cJxc12de_init_da8c8 4 = .ok (.aload_n 0, 1) := by decide +kernel
theorem dJxc12de_init_da8c8_5 : decode cJxc12de_init_da8c8 5 = .ok (.iconst 0, 1) := by decide +kernel
theorem dJxc12de_init_da8c8_6 : decode cJxc12de_init_da8c8 6 = .ok (.putfield 7, 3) := by decide +kernel
theorem dJxc12de_init_da8c8_9 : decode cJxc12de_init_da8c8 9 = .ok (.return_, 1) := by decide +kernel
theorem RQ.room {E : EV} {Γ : VG} {ret : Option FieldType} {rk b : Nat} {Ret : Option Value → AH → Prop} {Thr : String → AH → Prop} (Q : RQ E Γ ret rk b Ret Thr) {rk' maxL : Nat} (h1 : rk' + 1 ≤ rk) (h2 : 19 + maxL + 40 * rk' ≤ 40 * rk) : rk' + 1 ≤ (gR Γ).frames ∧ 419 + maxL + 40 * rk' ≤ (gR Γ).locals := by
  rw [Q.2.1]
  exact ⟨h1, by show 419 + maxL + 40 * rk' ≤ 40 * rk + 400; omega⟩
theorem RQ.fr {E : EV} {Γ : VG} {ret : Option FieldType} {rk b : Nat} {Ret : Option Value → AH → Prop} {Thr : String → AH → Prop} (Q : RQ E Γ ret rk b Ret Thr) {n : Nat} (h1 : n ≤ rk) : n ≤ (gR Γ).frames := by
  rw [Q.2.1]; exact h1
theorem RQ.lo {E : EV} {Γ : VG} {ret : Option FieldType} {rk b : Nat} {Ret : Option Value → AH → Prop} {Thr : String → AH → Prop} (Q : RQ E Γ ret rk b Ret Thr) {n : Nat} (h1 : n ≤ 400) : n ≤ (gR Γ).locals := by
  rw [Q.2.1]; show n ≤ 40 * rk + 400; omega
section VL2
variable {E : EV} {Γ : VG} {own : String} {cc : ByteArray} {nL b : Nat} {h : AH} {pc : Nat} {lv : List (Nat × Value)} {st : List Value}
theorem V_inc1 (X : CX E Γ own cc nL) {i : Nat} {x : Int32} (j : Nat) (lv' : List (Nat × Value)) (d : decode cc pc = .ok (.iinc i 1, 3)) (hj : lv[j]? = some (i, .int x)) (hn : i < nL) (hl : (i, Value.int (x + 1)) :: lv.filter (fun q => !(q.1 == i) && !(q.1 + 1 == i && q.2.category == 2)) = lv') (kk : V E Γ b h (pc + 3) lv' st) : V E Γ b h pc lv st := V_iinc X j lv' d hj rfl hn hl kk
theorem V_dec1 (X : CX E Γ own cc nL) {i : Nat} {x : Int32} (j : Nat) (lv' : List (Nat × Value)) (d : decode cc pc = .ok (.iinc i (-1), 3)) (hj : lv[j]? = some (i, .int x)) (hn : i < nL) (hl : (i, Value.int (x + (-1))) :: lv.filter (fun q => !(q.1 == i) && !(q.1 + 1 == i && q.2.category == 2)) = lv') (kk : V E Γ b h (pc + 3) lv' st) : V E Γ b h pc lv st := V_iinc X j lv' d hj rfl hn hl kk
theorem V_ldcw (X : CX E Γ own cc nL) {index : Nat} {v : Int32} (hw : Cond.constant own index v ∈ WS) (d : decode cc pc = .ok (.ldc_w index, 3)) (k : V E Γ b h (pc + 3) lv (.int v :: st)) : V E Γ b h pc lv st :=
  fun ls H locs k9 n9 h1 h2 h3 h4 h5 => lv_ldcw X.1 X.2.1 X.2.2.2.1 (X.2.2.2.2.1 _ hw) d (k ls H locs k9 n9 h1 h2 h3 h4 h5)
/-- a call of a list's method, of a list or of an open one -/
theorem V_callL (X : CX E Γ own cc nL) {y : MethodName} {bytes : ByteArray} {maxL : Nat} {ret : Option FieldType} {rk mc a index n : Nat} {Ret : Option Value → AH → Prop} {Thr : String → AH → Prop} {st0 : List Value} (hk : qK h a = 11 ∨ qK h a = 18) (As : List Value) (M : Ct E y bytes maxL ret rk mc (.ref a :: As) h Ret Thr) (cw : CWv own index RJx4a65c y bytes maxL ret n) (hR : rk + 1 ≤ (gR Γ).frames ∧ 419 + maxL + 40 * rk ≤ (gR Γ).locals) (hn : As.length = n) (hc : (st.map fun v => v.category).sum ≤ 8) (hs : st0 = As.reverse ++ .ref a :: st) (hb : mc ≤ b) (d : decode cc pc = .ok (.invokevirtual index, 3))
    (kx : ∀ (N : String) (h' : AH), Thr N h' → VX E Γ (b - mc) h' pc lv st N)
    (kk : ∀ (v : Option Value) (h' : AH), Ret v h' → V E Γ (b - mc) h' (pc + 3) lv (v.toList ++ st)) : V E Γ b h pc lv st0 := by
  refine V_back (a := (Value.ref a :: As).toArray) X hb (fun ls H locs k9 n9 h1 h2 h3 h4 h5 => ?_) kx kk
  obtain ⟨V9, hV9⟩ : ∃ V9, t_OB a ((eD E).1 10) 3 ((eD E).2 10) H V9 := by
    obtain ⟨bk, mcn, p1, -, -⟩ := h2
    rcases hk with z | z
    · exact ⟨_, (p1 a (by omega)).2.2.2.1 z⟩
    · exact ⟨_, (p1 a (by omega)).2.2.2.2.1 z⟩
  obtain ⟨cell, q1, q2, q3, q4⟩ := hV9
  have hKn := X.en.1.1 10 _ rfl
  obtain ⟨w0, w1, w2, w3, w4, w5⟩ := cw
  have hG : GoodIn WS (wsV own index RJx4a65c y (.code y bytes maxL ret :: WS)) := by
    intro w hw
    unfold wsV at hw
    rcases List.mem_append.mp hw with hw | hw
    · have hm : w ∈ WS := by
        simp only [List.mem_cons, List.not_mem_nil, or_false] at hw
        rcases hw with rfl | rfl | rfl | rfl <;> assumption
      exact ⟨hm, good_of_word (List.mem_filter.mp hm).2⟩
    · exact good_WS w5 w hw
  refine vx_runV (nL := nL) ⟨X.1, X.2.1, X.2.2.1, X.ow, X.ts⟩ (M _ X.2.2.2.2.2.2.2) (cwV n X.ts hG rfl rfl rfl w0 ⟨hR.1, ?_⟩) ⟨qPc_blind, ⟨cell, q1, by rw [q3]; rfl, by rw [q2]; exact hKn.2.1⟩, fun U hU hW => ⟨rfl, by rw [hU]; exact h2, X.en.call h3 hU hW⟩⟩ rfl hn (h1.1.trans X.2.2.1) hs (by rw [show (F0 (gm Γ) pc ls st0).monitorRoom = 0 from rfl]; omega) d ⟨by omega, by omega⟩
  show 8 + (maxL + 11) + (40 * rk + 400) ≤ _
  omega
/-- the class object of a row of objects -/
theorem V_getC (X : CX E Γ own cc nL) {index a mi : Nat} (hk : qK h a = 19) (hw : Cond.methodLink own index ⟨"java/lang/Object", "getClass", "()Ljava/lang/Class;"⟩ ∈ WS ∧ Cond.selects "[Ljava/lang/Object;" ⟨"java/lang/Object", "getClass", "()Ljava/lang/Class;"⟩ ⟨"java/lang/Object", "getClass", "()Ljava/lang/Class;"⟩ ∈ WS ∧ Cond.instanceMethod ⟨"java/lang/Object", "getClass", "()Ljava/lang/Class;"⟩ ∈ WS ∧ Cond.native ⟨"java/lang/Object", "getClass", "()Ljava/lang/Class;"⟩ ∈ WS ∧ Cond.declares ⟨"java/lang/Object", "getClass", "()Ljava/lang/Class;"⟩ ∈ WN) (hM : va_Mi "[Ljava/lang/Object;" mi (gs Γ)) (hR : 1 ≤ (gR Γ).frames ∧ 22 ≤ (gR Γ).locals) (hc : (st.map fun v => v.category).sum ≤ 8) (d : decode cc pc = .ok (.invokevirtual index, 3)) (k : V E Γ b h (pc + 3) lv (.ref mi :: st)) : V E Γ b h pc lv (.ref a :: st) := by
  intro ls H locs k9 n9 h1 h2 h3 h4 h5
  obtain ⟨kA, comp, k1, k2, k3, k4⟩ := (X.en.1.2 0 _ rfl).2
  exact va_getC X.1 X.2.1 h1.1.symm X.ow (X.ts _ hw.1) (va_Nw.use rfl (X.en.2.2.2.2.2.1 _ hw.2.2.2.2)) (X.ts _ hw.2.1) (X.ts _ hw.2.2.1) (X.ts _ hw.2.2.2.1) hM ⟨_, (h2.row19 hk).2, rfl, k4⟩ hR.1 (by omega) d (k ls H locs k9 n9 h1 h2 h3 h4 h5)
theorem V_arets (X : CX E Γ own cc nL) {ret0 : Option FieldType} {rk0 b0 : Nat} {Ret0 : Option Value → AH → Prop} {Thr0 : String → AH → Prop} (Q : RQ E Γ ret0 rk0 b0 Ret0 Thr0) {a : Nat} {ty : FieldType} (hret : ret0 = some (.array ty)) (d : decode cc pc = .ok (.areturn, 1)) (hr : Ret0 (some (.ref a)) h) : V E Γ b h pc lv [.ref a] := by
  intro ls H locs k9 n9 h1 h2 h3 h4 h5
  obtain ⟨q1, q2, q3⟩ := Q
  rw [q2] at h4 h5
  have h4' : k9 + b / 3 ≤ b0 / 3 := h4
  have h5' : n9 + 4 * b ≤ 4 * b0 := h5
  show W _ _ _ _ _ _ _ _ _ _ _ _ _ _ (gQ Γ) _
  rw [q3]
  refine vx_ret (W.widen (k := b0 / 3) (n := 4 * b0) (by omega) (by omega) ?_)
  exact W.aret X.1 X.2.1 (q1.trans hret) (Or.inr ⟨ty, rfl⟩) (Or.inr ⟨a, rfl⟩) (fun t ht hW => ⟨⟨_, h, rfl, hr, by rw [ht]; exact h2⟩, h3.F ht⟩) h3.2.2 d X.2.2.2.2.2.2.1
end VL2

