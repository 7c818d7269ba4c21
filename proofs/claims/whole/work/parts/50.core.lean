/-! WHAT ALWAYS HOLDS: AN END'S CORE -/
def kOK (n : Nat) (L : List Nat) (k : KO) : Prop := k.1 ≤ 1 ∧ k.2.1 ∈ L ∧ (k.1 = 0 → k.2.2 ≤ n) ∧ (k.1 = 1 → k.2.2 ≤ 200)
/-- the end e over the text B that the centre's messages give -/
def cO (e : Nat) (x : EQ) (B : List Nat) (L : List Nat) : Prop := vS (eS x ++ eW x) B ∧ eX x = apS (eS x ++ eW x) B ∧ mkO e (eS x ++ eW x) ∧ (∀ o ∈ eS x ++ eW x, o.2.2.1 ∈ L) ∧ eC x ≤ (eX x).length ∧ eMk x ≤ (eX x).length ∧ (∀ k ∈ eK x, kOK (eX x).length L k)
theorem mvp_le {o : SO} {xs : List Nat} {c : Nat} (h : vO o xs.length) (h0 : o.1 ≠ 0) (hc : c ≤ xs.length) : mvp o c ≤ (apO o xs).length := by
  unfold mvp
  rcases h with ⟨a, -⟩ | ⟨a, b⟩ | ⟨a, b⟩
  · exact absurd a h0
  · rw [al_1 a b]
    split
    · omega
    · omega
  · rw [al_2 a b]
    split
    · omega
    · rw [if_neg (by omega)]; omega
theorem bhd_le {o : SO} {xs : List Nat} (h : vO o xs.length) (h0 : o.1 ≠ 0) : bhd o ≤ (apO o xs).length := by
  unfold bhd
  rcases h with ⟨a, -⟩ | ⟨a, b⟩ | ⟨a, b⟩
  · exact absurd a h0
  · rw [al_1 a b, if_pos a]; omega
  · rw [al_2 a b, if_neg (by omega)]; omega
theorem kOK.mv {o : SO} {xs : List Nat} {L : List Nat} {k : KO} (h : vO o xs.length) (h0 : o.1 ≠ 0) (hk : kOK xs.length L k) : kOK (apO o xs).length L (mvk o k) := by
  obtain ⟨k1, k2, k3, k4⟩ := hk
  unfold mvk
  split
  · next e => exact ⟨k1, k2, fun _ => mvp_le h h0 (k3 e), fun e1 => by have e1 : k.1 = 1 := e1; omega⟩
  · next e => exact ⟨k1, k2, fun e1 => absurd e1 e, k4⟩
theorem fol_ok {e : Nat} {x : EQ} {B L : List Nat} {b : SO} (h : cO e x B L) (he : e ≤ 1) (hb : vO b B.length) (hm : b.2.2.2 ≠ e) (hm1 : b.2.2.2 ≤ 1) (hl : b.2.2.1 ∈ L) : cO e (fol x b) (apO b B) L ∧ eS (fol x b) = crs (eS x) b ∧ (eW (fol x b)).length = (eW x).length ∧ (eK (fol x b)).length = (eK x).length ∧ eR (fol x b) = eR x := by
  obtain ⟨h1, h2, h3, h4, h5, h6, h7⟩ := h
  have hall : ∀ o ∈ eS x ++ eW x, o.2.2.2 ≠ b.2.2.2 ∧ o.2.2.2 ≤ 1 := fun o ho => by rw [h3 o ho]; exact ⟨hm.symm, he⟩
  have hk2 : ∀ o ∈ eS x ++ eW x, o.1 ≤ 2 := fun o ho => (vS_len h1 o ho).1
  obtain ⟨p1, p2, p3⟩ := crs_ok (eS x ++ eW x) b B h1 hb hall hm1
  rw [crs_app] at p1 p3
  rw [crp_app] at p2 p3
  rw [← h2] at p2 p3
  have km := crs_m (eS x ++ eW x) b (vO_k hb) hk2
  rw [crs_app] at km
  have mm : mkO e (crs (eS x) b ++ crs (eW x) (crp (eS x) b)) := fun o ho => by
    obtain ⟨a, ha, ea⟩ := km o ho
    rw [show o.2.2.2 = a.2.2.2 from congrArg Prod.snd ea]; exact h3 a ha
  have ml : ∀ o ∈ crs (eS x) b ++ crs (eW x) (crp (eS x) b), o.2.2.1 ∈ L := fun o ho => by
    obtain ⟨a, ha, ea⟩ := km o ho
    rw [show o.2.2.1 = a.2.2.1 from congrArg Prod.fst ea]; exact h4 a ha
  have e2 : crp x.2.2.1 (crp x.2.1 b) = crp (eW x) (crp (eS x) b) := rfl
  generalize hb2 : crp (eW x) (crp (eS x) b) = b2 at p2 p3 e2
  unfold fol
  dsimp only
  rw [e2]
  by_cases e0 : b2.1 = 0
  · rw [if_pos e0]
    rw [ap_0 e0] at p3
    exact ⟨⟨p1, p3.symm, mm, ml, h5, h6, h7⟩, rfl, crs_len _ _, rfl, rfl⟩
  · rw [if_neg e0]
    refine ⟨⟨p1, p3.symm, mm, ml, mvp_le p2 e0 h5, bhd_le p2 e0, fun k hk => ?_⟩, rfl, crs_len _ _, List.length_map _, rfl⟩
    obtain ⟨k0, hk0, ek⟩ := List.mem_map.mp (show k ∈ (eK x).map (mvk b2) from hk)
    rw [← ek]
    exact (h7 k0 hk0).mv p2 e0
theorem fols_cons (x : EQ) (b : SO) (Q : List SO) : fols x (b :: Q) = fols (fol x b) Q := rfl
theorem fols_ok {e f : Nat} (he : e ≤ 1) (hf : f ≤ 1) (hef : f ≠ e) {L : List Nat} : ∀ (Q : List SO) (x : EQ) (B : List Nat), cO e x B L → vS Q B → mkO f Q → (∀ o ∈ Q, o.2.2.1 ∈ L) → cO e (fols x Q) (apS Q B) L ∧ eS (fols x Q) = trl (eS x) Q ∧ (eW (fols x Q)).length = (eW x).length ∧ (eK (fols x Q)).length = (eK x).length ∧ eR (fols x Q) = eR x
  | [], x, B, h, _, _, _ => ⟨h, rfl, rfl, rfl, rfl⟩
  | b :: Q, x, B, h, hQ, mQ, lQ => by
    have mb : b.2.2.2 = f := mQ b List.mem_cons_self
    obtain ⟨a1, a2, a3, a4, a5⟩ := fol_ok h he hQ.1 (by rw [mb]; exact hef) (by rw [mb]; exact hf) (lQ b List.mem_cons_self)
    obtain ⟨b1, b2, b3, b4, b5⟩ := fols_ok he hf hef Q (fol x b) (apO b B) a1 hQ.2 (fun o ho => mQ o (List.mem_cons_of_mem _ ho)) (fun o ho => lQ o (List.mem_cons_of_mem _ ho))
    rw [fols_cons]
    exact ⟨b1, by rw [b2, a2]; rfl, b3.trans a3, b4.trans a4, b5.trans a5⟩
theorem flt_ok : ∀ (W : List SO) (B : List Nat), vS W B → vS (W.filter (fun o => o.1 ≠ 0)) B ∧ apS (W.filter (fun o => o.1 ≠ 0)) B = apS W B
  | [], _, _ => ⟨trivial, rfl⟩
  | o :: W, B, h => by
    by_cases e : o.1 = 0
    · rw [List.filter_cons_of_neg (by simpa using e)]
      have := flt_ok W (apO o B) h.2
      rw [ap_0 e] at this
      refine ⟨this.1, this.2.trans ?_⟩
      show apS W B = apS W (apO o B)
      rw [ap_0 e]
    · rw [List.filter_cons_of_pos (by simpa using e)]
      have := flt_ok W (apO o B) h.2
      exact ⟨⟨h.1, this.1⟩, this.2⟩
theorem drn_ok {e : Nat} {x : EQ} {B L : List Nat} (h : cO e x B L) : cO e (drn x) B L := by
  obtain ⟨h1, h2, h3, h4, h5⟩ := h
  obtain ⟨v1, v2⟩ := (vS_app _ _ _).mp h1
  obtain ⟨f1, f2⟩ := flt_ok (eW x) _ v2
  have sub : ∀ o, o ∈ eS x ++ (eW x).filter (fun o => o.1 ≠ 0) → o ∈ eS x ++ eW x := fun o ho => by
    rcases List.mem_append.mp ho with u | u
    · exact List.mem_append_left _ u
    · exact List.mem_append_right _ ((List.mem_filter.mp u).1)
  refine ⟨(vS_app _ _ _).mpr ⟨v1, f1⟩, ?_, fun o ho => h3 o (sub o ho), fun o ho => h4 o (sub o ho), h5⟩
  show eX x = apS (eS x ++ (eW x).filter (fun o => o.1 ≠ 0)) B
  rw [apS_app, f2, ← apS_app]; exact h2
/-- bounds of an end -/
theorem cO_we {e : Nat} {x : EQ} {B L : List Nat} (h : cO e x B L) (he : e ≤ 1) (hB : ∀ y ∈ B, y ∈ L) (hl : B.length + (eS x).length + (eW x).length ≤ 200) (hK : (eK x).length ≤ 200) (hR : eR x < 2 ^ 28) : WE (fun y => y ∈ L) x := by
  obtain ⟨h1, h2, h3, h4, h5, h6, h7⟩ := h
  have hx : (eX x).length ≤ 200 := by
    rw [h2]
    have := apS_len (eS x ++ eW x) B
    rw [List.length_append] at this
    omega
  have pos : ∀ o ∈ eS x ++ eW x, wO (fun y => y ∈ L) o := fun o ho => by
    have a := vS_len h1 o ho
    rw [List.length_append] at a
    exact ⟨a.1, by omega, by rw [h3 o ho]; exact he, h4 o ho⟩
  refine ⟨⟨hx, fun y hy => ?_⟩, ⟨by show (eS x).length ≤ 200; omega, fun o ho => pos o (List.mem_append_left _ ho)⟩, ⟨by show (eW x).length ≤ 200; omega, fun o ho => pos o (List.mem_append_right _ ho)⟩, ⟨hK, fun k hk => ?_⟩, by show eC x < _; omega, by show eMk x < _; omega, hR⟩
  · have hy : y ∈ eX x := hy
    rw [h2] at hy
    rcases apS_mem hy with u | ⟨o, ho, eo⟩
    · exact hB y u
    · rw [eo]; exact h4 o ho
  · obtain ⟨k1, k2, k3, k4⟩ := h7 k hk
    refine ⟨k1, ?_, k2⟩
    rcases (show k.1 = 0 ∨ k.1 = 1 by omega) with u | u
    · have := k3 u; omega
    · have := k4 u; omega
