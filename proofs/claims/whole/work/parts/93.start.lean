/-! THE LAW FROM ITS ENTRY -/
theorem whole_start {p : Program} {e : Env} {s : State} {m : MethodId} {below : List Frame} {meth : Method} {c : Code} (l : Launch) (hflags : l.flags = flags0) {b L : Nat} {xs : Nat → Int32} (hL : L ≤ 2048) (C0 : lw_At p s m meth c b L xs) : W p l e room_1 s m #[Value.ref b] below meth c s.heap [] 0 0 (lw_Z below #[Value.ref b] s) (entryFrame m ([Value.ref b] : List Value).toArray 9) := by
  obtain ⟨E, hE, heN⟩ := law_env C0
  have nx := law_xn C0
  obtain ⟨hx, hb, hr, hml, hown, hts, hX, hbl, hlocks, hgv⟩ := C0
  have hst : l.stackTraces = false := by
    unfold Launch.stackTraces; rw [hflags]; decide
  obtain ⟨Γ, eΓ⟩ : ∃ Γ : VG, Γ = (p, l, e, room_1, s, m, #[Value.ref b], below, meth, c, lw_Z below #[Value.ref b] s) := ⟨_, rfl⟩
  have X : CX E Γ RL cL_law 9 := by
    rw [eΓ]; exact ⟨hx, hb, hml, hown, fun w hw => hts w (List.mem_filter.mp hw).1, hE, hlocks, hst⟩
  have hfin : ∀ (bb : Nat) (h : AH) (pc : Nat) (ll : List (Nat × Value)), decode cL_law pc = .ok (.ireturn, 1) → V E Γ bb h pc ll [.int 1] := by
    rw [eΓ]
    intro bb h pc ll hd ls H locs k n g1 g2 g3 g4 g5
    have g4' : k + bb / 3 ≤ 603072 := g4
    have g5' : n + 4 * bb ≤ 7219306 := g5
    refine va_forget (fun q hq => ?_) ?_
    · have t : eN E ≤ q.base := g3.2.2 q hq
      show s.heap.size ≤ q.base
      rw [← heN]; exact t
    · refine W.widen (k := 603072) (n := 7219306) (by omega) (by omega) ?_
      exact lw_ret (d0 := s.drawn) (Drawn.sameBut.refl s.drawn lw_cs) hx hb hr hlocks hd
  have lw : LW E Γ b L xs := by
    refine ⟨X, ?_, ?_, ?_, ?_, ?_, hL, hfin⟩
    · rw [eΓ]; exact nx
    · rw [eΓ]; exact hX
    · rw [eΓ]; exact hbl
    · show ¬ eN E ≤ b
      rw [heN]; exact Nat.not_le.mpr hbl
    · rw [eΓ]
      exact fun rk maxL h1 h2 => ⟨by show rk + 1 ≤ 2048; omega, by show 419 + maxL + 40 * rk ≤ 94400; omega⟩
  have body := law_body lw
  rw [eΓ] at body
  have hle := lv_entry [Value.ref b] (n := 9) (Nat.le_of_ble_eq_true rfl)
  rw [lg_entry_eq]
  generalize (lg_sl [Value.ref b] ++ List.replicate (9 - (lg_sl [Value.ref b]).length) Slot.unset).toArray = ls at hle ⊢
  have hmx : (gc (p, l, e, room_1, s, m, #[Value.ref b], below, meth, c, lw_Z below #[Value.ref b] s)).maxLocals = 9 := hml
  refine body ls s.heap [] 0 0 (by rw [hmx]; exact hle) ⟨fun _ => 0, fun _ => 0, fun a ha => absurd rfl ha, fun a ha => ?_, fun a b' ha => ?_⟩ va_S.rf ?_ ?_
  · exact absurd (show (0 : Nat) = 11 from ha) (by decide)
  · exact absurd (show (0 : Nat) = 11 from ha) (by decide)
  · show 0 + 1700000 / 3 ≤ 603072
    exact Nat.le_of_ble_eq_true rfl
  · show 0 + 4 * 1700000 ≤ 7219306
    exact Nat.le_of_ble_eq_true rfl
