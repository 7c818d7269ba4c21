/-! THE LAW'S ENVIRONMENT -/
theorem tb_in {w : Cond} (i : Nat) (h : tables_1[i]? = some w) : w ∈ lw_tbl := List.mem_append_right _ (List.mem_of_getElem? h)
theorem law_xn {p : Program} {s : State} {m : MethodId} {meth : Method} {c : Code} {b L : Nat} {xs : Nat → Int32} (C0 : lw_At p s m meth c b L xs) : XN s := by
  obtain ⟨hx, hb, hr, hml, hown, hts, hX, hbl, hlocks, hgv⟩ := C0
  have hgf := flat_of_before _ hgv
  intro q hq
  simp only [nxP, List.mem_cons, List.not_mem_nil, or_false] at hq
  rcases hq with rfl | rfl | rfl | rfl | rfl | rfl | rfl
  all_goals exact va_Nc.of (hgf _ (by decide +kernel))
theorem law_str {p : Program} {s : State} {m : MethodId} {meth : Method} {c : Code} {b L : Nat} {xs : Nat → Int32} (C0 : lw_At p s m meth c b L xs) : ∀ q ∈ qStr, ∃ a, vk_R q.1 q.2.1 q.2.2 a s := by
  obtain ⟨hx, hb, hr, hml, hown, hts, hX, hbl, hlocks, hgv⟩ := C0
  have hgf := flat_of_before _ hgv
  intro q hq
  simp only [qStr, List.mem_cons, List.not_mem_nil, or_false] at hq
  rcases hq with rfl | rfl | rfl | rfl | rfl | rfl | rfl | rfl | rfl | rfl | rfl | rfl | rfl
  · obtain ⟨a, -, -, -, ha, -⟩ := Cond.exactly_spec (t := .string "Couplet" 256) (cls := "java/lang/String") (hgf _ (by decide +kernel))
    exact ⟨a, vk_R.of (hts _ (tb_in 245 (by decide +kernel))) ha⟩
  · obtain ⟨a, -, -, -, ha, -⟩ := Cond.exactly_spec (t := .string "Couplet" 136) (cls := "java/lang/String") (hgf _ (by decide +kernel))
    exact ⟨a, vk_R.of (hts _ (tb_in 281 (by decide +kernel))) ha⟩
  · obtain ⟨a, -, -, -, ha, -⟩ := Cond.exactly_spec (t := .string "Couplet" 157) (cls := "java/lang/String") (hgf _ (by decide +kernel))
    exact ⟨a, vk_R.of (hts _ (tb_in 721 (by decide +kernel))) ha⟩
  · obtain ⟨a, -, -, -, ha, -⟩ := Cond.exactly_spec (t := .string "Couplet" 59) (cls := "java/lang/String") (hgf _ (by decide +kernel))
    exact ⟨a, vk_R.of (hts _ (tb_in 891 (by decide +kernel))) ha⟩
  · obtain ⟨a, -, -, -, ha, -⟩ := Cond.exactly_spec (t := .string "Couplet" 259) (cls := "java/lang/String") (hgf _ (by decide +kernel))
    exact ⟨a, vk_R.of (hts _ (tb_in 896 (by decide +kernel))) ha⟩
  · obtain ⟨a, -, -, -, ha, -⟩ := Cond.exactly_spec (t := .string "Couplet" 266) (cls := "java/lang/String") (hgf _ (by decide +kernel))
    exact ⟨a, vk_R.of (hts _ (tb_in 910 (by decide +kernel))) ha⟩
  · obtain ⟨a, -, -, -, ha, -⟩ := Cond.exactly_spec (t := .string "Couplet" 263) (cls := "java/lang/String") (hgf _ (by decide +kernel))
    exact ⟨a, vk_R.of (hts _ (tb_in 921 (by decide +kernel))) ha⟩
  · obtain ⟨a, -, -, -, ha, -⟩ := Cond.exactly_spec (t := .string "Couplet" 95) (cls := "java/lang/String") (hgf _ (by decide +kernel))
    exact ⟨a, vk_R.of (hts _ (tb_in 998 (by decide +kernel))) ha⟩
  · obtain ⟨a, -, -, -, ha, -⟩ := Cond.exactly_spec (t := .string "Couplet" 105) (cls := "java/lang/String") (hgf _ (by decide +kernel))
    exact ⟨a, vk_R.of (hts _ (tb_in 1013 (by decide +kernel))) ha⟩
  · obtain ⟨a, -, -, -, ha, -⟩ := Cond.exactly_spec (t := .string "Couplet" 271) (cls := "java/lang/String") (hgf _ (by decide +kernel))
    exact ⟨a, vk_R.of (hts _ (tb_in 1163 (by decide +kernel))) ha⟩
  · obtain ⟨a, -, -, -, ha, -⟩ := Cond.exactly_spec (t := .string "Couplet" 273) (cls := "java/lang/String") (hgf _ (by decide +kernel))
    exact ⟨a, vk_R.of (hts _ (tb_in 1182 (by decide +kernel))) ha⟩
  · obtain ⟨a, -, -, -, ha, -⟩ := Cond.exactly_spec (t := .string "Couplet" 240) (cls := "java/lang/String") (hgf _ (by decide +kernel))
    exact ⟨a, vk_R.of (hts _ (tb_in 1212 (by decide +kernel))) ha⟩
  · obtain ⟨a, -, -, -, ha, -⟩ := Cond.exactly_spec (t := .string "Couplet" 246) (cls := "java/lang/String") (hgf _ (by decide +kernel))
    exact ⟨a, vk_R.of (hts _ (tb_in 1225 (by decide +kernel))) ha⟩
theorem law_env {p : Program} {s : State} {m : MethodId} {meth : Method} {c : Code} {b L : Nat} {xs : Nat → Int32} (C0 : lw_At p s m meth c b L xs) : ∃ E : EV, EN E s ∧ eN E = s.heap.size := by
  have hStr := law_str C0
  obtain ⟨hx, hb, hr, hml, hown, hts, hX, hbl, hlocks, hgv⟩ := C0
  have hws : ∀ w ∈ WS, w.before #[Value.ref b] s = true := fun w hw => hts w (List.mem_filter.mp hw).1
  have hgf := flat_of_before _ hgv
  have hA : ∀ a : Nat, a < s.heap.size → ¬ (fun q : Nat => s.heap.size ≤ q) a := fun a h => Nat.not_le.mpr h
  obtain ⟨c0, i0, k0⟩ := u_known (C := RX0) (T := TX0) (N := 2) (n := 2) hws inW0 (hws _ (wsm 131 (by decide +kernel) (by decide +kernel)))
  obtain ⟨c1, i1, k1⟩ := u_known (C := RX1) (T := TX1) (N := 2) (n := 2) hws inW1 (hws _ (wsm 152 (by decide +kernel) (by decide +kernel)))
  obtain ⟨c2, i2, k2⟩ := u_known (C := RX2) (T := TX2) (N := 10) (n := 10) hws inW2 (hws _ (wsm 45 (by decide +kernel) (by decide +kernel)))
  obtain ⟨c3, i3, k3⟩ := u_known (C := RX3) (T := TX3) (N := 3) (n := 3) hws inW3 (hws _ (wsm 950 (by decide +kernel) (by decide +kernel)))
  obtain ⟨c4, i4, k4⟩ := u_known (C := RX4) (T := TX4) (N := 2) (n := 2) hws inW4 (hws _ (wsm 927 (by decide +kernel) (by decide +kernel)))
  obtain ⟨c5, i5, k5⟩ := u_known (C := RX5) (T := TX5) (N := 3) (n := 3) hws inW5 (hws _ (wsm 757 (by decide +kernel) (by decide +kernel)))
  obtain ⟨c6, i6, k6⟩ := u_known (C := RX6) (T := TX6) (N := 4) (n := 4) hws inW6 (hws _ (wsm 332 (by decide +kernel) (by decide +kernel)))
  obtain ⟨c7, i7, k7⟩ := u_known (C := RX7) (T := TX7) (N := 1) (n := 1) hws inW7 (hws _ (wsm 51 (by decide +kernel) (by decide +kernel)))
  obtain ⟨c8, i8, k8⟩ := u_known (C := RX8) (T := TX8) (N := 6) (n := 6) hws inW8 (hws _ (wsm 37 (by decide +kernel) (by decide +kernel)))
  obtain ⟨c9, i9, k9⟩ := u_known (C := RX9) (T := TX9) (N := 31) (n := 31) hws inW9 (hws _ (wsm 1244 (by decide +kernel) (by decide +kernel)))
  obtain ⟨c10, i10, k10⟩ := u_known (C := RJx4a65c) (T := TJx4a65c) (N := 3) (n := 3) hws inW10 (hws _ (wsm 57 (by decide +kernel) (by decide +kernel)))
  obtain ⟨dC, dI, hK1⟩ : ∃ (dC : Nat → ClassId) (dI : Nat → Nat → Nat), ∀ (k : Nat) (q : vw_C), kcl[k]? = some q → u_Kn s q.1 q.2.1 q.2.2 (dC k) (dI k) := by
    refine ⟨fun k => if k = 0 then c0 else if k = 1 then c1 else if k = 2 then c2 else if k = 3 then c3 else if k = 4 then c4 else if k = 5 then c5 else if k = 6 then c6 else if k = 7 then c7 else if k = 8 then c8 else if k = 9 then c9 else c10, fun k => if k = 0 then i0 else if k = 1 then i1 else if k = 2 then i2 else if k = 3 then i3 else if k = 4 then i4 else if k = 5 then i5 else if k = 6 then i6 else if k = 7 then i7 else if k = 8 then i8 else if k = 9 then i9 else i10, fun k q hq => ?_⟩
    match k, hq with
    | 0, hq => cases hq; exact k0
    | 1, hq => cases hq; exact k1
    | 2, hq => cases hq; exact k2
    | 3, hq => cases hq; exact k3
    | 4, hq => cases hq; exact k4
    | 5, hq => cases hq; exact k5
    | 6, hq => cases hq; exact k6
    | 7, hq => cases hq; exact k7
    | 8, hq => cases hq; exact k8
    | 9, hq => cases hq; exact k9
    | 10, hq => cases hq; exact k10
    | k + 11, hq => simp [kcl] at hq
  have ar : ∀ (ty : FieldType), Cond.arrayClass ty ∈ WS → (∀ C, ty ≠ .object C) → ∃ cA, ArrOfT s cA ty ∧ va_RA s cA ty := fun ty hw hno => by
    obtain ⟨ca, ka, comp, h1, h2, h3⟩ := Cond.arrayClass_spec (hws _ hw)
    refine ⟨ca, fun N z => ⟨fun k h => (by cases h), ka, h2, comp, h3⟩, ?_⟩
    cases ty <;> first | exact h1 | exact absurd rfl (hno _)
  obtain ⟨aI, aI1, aI2⟩ := ar .int ac_int (fun C h => by cases h)
  obtain ⟨aZ, aZ1, aZ2⟩ := ar .boolean ac_boolean (fun C h => by cases h)
  obtain ⟨aJ, aJ1, aJ2⟩ := ar .long ac_long (fun C h => by cases h)
  obtain ⟨aD, aD1, aD2⟩ := ar .double ac_double (fun C h => by cases h)
  obtain ⟨comp, aO, kO, f1, f2, f3, f4, f5⟩ := Cond.arrayOver_spec (n := "java/lang/Object") (hts _ (tb_in 698 (by decide +kernel)))
  have aO1 : ArrOfT s aO (.object "java/lang/Object") := fun N z => ⟨fun k h => (by cases h), kO, f3, comp, f4⟩
  have aO2 : va_RA s aO (.object "java/lang/Object") := ⟨kO, comp, f3, f4, f1, f5⟩
  obtain ⟨t, ht, hT⟩ := va_Tof (A := fun q : Nat => s.heap.size ≤ q) (N := 0) (f := fun _ => .null) (ty := .object "java/lang/Object") (tm := .static "java/util/ArrayList" "DEFAULTCAPACITY_EMPTY_ELEMENTDATA" "[Ljava/lang/Object;") (by decide) (hgf _ (by decide +kernel)) (va_eqt (z := 0) (hgf _ (by decide +kernel))) (fun j hj => absurd hj (Nat.not_lt_zero _)) hA
  have hZ := va_Zref (C := "java/util/ArrayList") (n := "DEFAULTCAPACITY_EMPTY_ELEMENTDATA") (d := "[Ljava/lang/Object;") (hts _ (tb_in 69 (by decide +kernel))) (hts _ (tb_in 6 (by decide +kernel))) ht hA
  have hU := vx_Zqof (C := Bundle.tN) (n := "UNASSIGNED_STACK") (d := Bundle.steD) (hts _ (tb_in 228 (by decide +kernel))) (hts _ (tb_in 10 (by decide +kernel))) (hgf _ (by decide +kernel)) hA
  have hN := vx_Zqof (C := Bundle.tN) (n := "SUPPRESSED_SENTINEL") (d := Bundle.listD) (hts _ (tb_in 230 (by decide +kernel))) (hts _ (tb_in 10 (by decide +kernel))) (hgf _ (by decide +kernel)) hA
  obtain ⟨mi, hMi⟩ := va_Mi.of (C := "[Ljava/lang/Object;") (hgf _ (by decide +kernel))
  refine ⟨((dC, dI), (fun k => if k = 0 then aO else if k = 1 then aI else if k = 2 then aZ else if k = 3 then aJ else aD), t, s.heap.size, mi), ⟨⟨hK1, fun k q hq => ?_⟩, hZ, hT, hU, hN, fun w hw => ?_, hStr, Nat.le_refl _, va_AO.of (hts _ (tb_in 698 (by decide +kernel))), hMi⟩, rfl⟩
  · match k, hq with
    | 0, hq => cases hq; exact ⟨aO1, aO2⟩
    | 1, hq => cases hq; exact ⟨aI1, aI2⟩
    | 2, hq => cases hq; exact ⟨aZ1, aZ2⟩
    | 3, hq => cases hq; exact ⟨aJ1, aJ2⟩
    | 4, hq => cases hq; exact ⟨aD1, aD2⟩
    | k + 5, hq => simp [ety] at hq
  · refine va_Nw.of (A := #[Value.ref b]) ?_ (hts w (List.mem_append_right _ (List.mem_filter.mp hw).1))
    have hg := (List.mem_filter.mp hw).2
    cases w <;> first | rfl | (simp [nestW] at hg)
