/-! RAW LISTS AND RAW ROWS OF REFERENCES (within the methods of ArrayList) -/
def FR (f : Nat) (own : String) (index : Nat) (ty : FieldType) : Prop :=
  ∃ j : Nat, f = 1000 + j ∧ j < 3 ∧ tyJx4a65c j = ty ∧ ∃ ref : String, Cond.fieldLink own index ref (TJx4a65c j).2.1 (TJx4a65c j).2.2.1 ∈ WS ∧ (ref = (TJx4a65c j).1 ∨ Cond.sameField ref (TJx4a65c j).1 (TJx4a65c j).2.1 (TJx4a65c j).2.2.1 ∈ WS)
/-- a row of references written anew -/
abbrev sR (h : AH) (a : Nat) (r : List Nat) : AH := sL h a r (qC h a)
/-- a row of room c that holds xs -/
def enc (xs : List Nat) (c : Nat) : List Nat := xs.map (· + 1) ++ List.replicate (c - xs.length) 0
theorem enc_len {xs : List Nat} {c : Nat} (h : xs.length ≤ c) : (enc xs c).length = c := by unfold enc; simp; omega
/-- a list opened: object a, its row e -/
def rawL (h : AH) (a e : Nat) (m : Int32) : AH :=
  (fun b => if b = a then 18 else if b = e ∧ 0 < qC h a then 19 else h.1 b, fun g b => if b = a ∧ g = 1000 then .int m else if b = a ∧ g = 1001 then .ref e else if b = a ∧ g = 1002 then .int (nI (qL h a).length) else h.2.1 g b,
   (fun b => if b = e ∧ 0 < qC h a then enc (qL h a) (qC h a) else h.2.2.1 b), h.2.2.2.1, h.2.2.2.2)
theorem rdc_row (xs : List Nat) (n j : Nat) : rdc ((xs.map (· + 1) ++ List.replicate n 0).getD j 0) = xs[j]? := by
  rw [List.getD_eq_getElem?_getD]
  by_cases hj : j < xs.length
  · rw [List.getElem?_append_left (by simpa using hj), List.getElem?_map, List.getElem?_eq_getElem hj]
    rfl
  · rw [List.getElem?_append_right (by simpa using hj), List.getElem?_replicate, List.getElem?_eq_none (by omega)]
    split <;> rfl
theorem enc_get (xs : List Nat) (c j : Nat) : rdc ((enc xs c).getD j 0) = xs[j]? := rdc_row xs _ j
theorem HP.congr {E : EV} {h h1 : AH} {H : Heap} (hp : HP E h H) (eK : qK h1 = qK h) (eF : ∀ f a, qK h a ≠ 11 → qF h1 f a = qF h f a) (eL : ∀ a, qK h a = 11 → qL h1 a = qL h a ∧ qC h1 a = qC h a) (eR : ∀ a, qK h a = 19 → qL h1 a = qL h a) (eI : ∀ a, qK h a ≠ 0 → qI h1 a = qI h a) : HP E h1 H := by
  obtain ⟨bk, mcn, p1, p2, p3⟩ := hp
  refine ⟨bk, mcn, fun a ha => ?_, fun a ha => ?_, fun a b ha hb hc hd hab => p3 a b (by rw [← eK]; exact ha) (by rw [← eK]; exact hb) (by rw [← (eL a (by rw [← eK]; exact ha)).2]; exact hc) (by rw [← (eL b (by rw [← eK]; exact hb)).2]; exact hd) hab⟩
  · rw [eK] at ha
    obtain ⟨b1, b2, z1, z2, z3, z4, z5, z6, z7, z8⟩ := p1 a ha
    refine ⟨b1, b2, ?_⟩
    unfold qAt
    simp only [eK, eI a ha]
    refine ⟨fun x => t_OB.to (z1 x) (fun k hk => (eF _ _ (by omega)).symm), fun x => t_OB.to (z2 x) (fun k _ => ?_), fun x => t_OB.to (z3 x) (fun k _ => (eF _ _ (by omega)).symm), z4, z5, fun x => ?_, fun x => ?_, fun x => ?_⟩
    · unfold qLV; rw [(eL a x).1]
    · obtain ⟨y, y1, y2⟩ := z6 x
      exact ⟨y, by rw [eF _ _ (by omega)]; exact y1, y2⟩
    · obtain ⟨y, y1, y2⟩ := z7 x
      exact ⟨y, by rw [eF _ _ (by omega)]; exact y1, y2⟩
    · rw [eR a x]; exact z8 x
  · rw [eK] at ha
    have z := p2 a ha
    unfold qLB at z ⊢
    rw [(eL a ha).1, (eL a ha).2, eK]
    exact z
theorem arrV_congr {cA : ClassId} {n : Nat} {f g : Nat → Value} (hfg : ∀ j, j < n → f j = g j) : arrV cA n f = arrV cA n g := by
  unfold arrV
  congr 1
  exact Array.ext (by simp) (fun i h1 h2 => by simp at h1; simp [hfg i h1])
/-- a list opened -/
theorem HP.open1 {E : EV} {h : AH} {H : Heap} {a : Nat} (hp : HP E h H) (hk : qK h a = 11) : ∃ (e : Nat) (m : Int32), HP E (rawL h a e m) H ∧ (qC h a = 0 → e = eZ E ∧ qL h a = []) ∧ (0 < qC h a → qK h e = 0 ∧ e ≠ a ∧ (qL h a).length ≤ qC h a ∧ (10 ≤ qC h a ∧ qC h a < 40000)) := by
  obtain ⟨bk, mcn, p1, p2, p3⟩ := hp
  have hLB := p2 a hk
  have hne : 0 < qC h a → qK h (bk a) = 0 ∧ bk a ≠ a ∧ (qL h a).length ≤ qC h a ∧ (10 ≤ qC h a ∧ qC h a < 40000) := by
    intro hc
    rcases hLB with ⟨z, -⟩ | ⟨z1, z2, z3, z4, z5, z6⟩
    · omega
    · exact ⟨z5, fun e => by rw [e, hk] at z5; omega, z3, z2⟩
  refine ⟨bk a, mcn a, ⟨bk, mcn, fun b hb => ?_, fun b hb => ?_, fun b c hb hc hc0 hd0 hbc => ?_⟩, fun hc => ?_, hne⟩
  · by_cases eba : b = a
    · subst eba
      obtain ⟨b1, b2, z1, z2, z3, z4, z5, z6, z7, z8⟩ := p1 b (by omega)
      refine ⟨b1, b2, ?_⟩
      have kb : qK (rawL h b (bk b) (mcn b)) b = 18 := by simp [qK, rawL]
      unfold qAt
      rw [kb]
      refine ⟨fun z => by omega, fun z => by omega, fun _ => ?_, fun z => by omega, fun z => by omega, fun z => by omega, fun z => by omega, fun z => by omega⟩
      refine t_OB.to (z2 hk) (fun k hk3 => ?_)
      rcases (show k = 0 ∨ k = 1 ∨ k = 2 by omega) with rfl | rfl | rfl <;> simp [qLV, qF, rawL]
    · by_cases ebe : b = bk a ∧ 0 < qC h a
      · obtain ⟨e1, e2⟩ := ebe
        subst e1
        rcases hLB with ⟨z, -⟩ | ⟨z1, z2, z3, z4, z5, z6⟩
        · omega
        · refine ⟨z4, (Array.getElem?_eq_some_iff.mp z6).1, ?_⟩
          have kb : qK (rawL h a (bk a) (mcn a)) (bk a) = 19 := by simp [qK, rawL, eba, e2]
          unfold qAt
          rw [kb]
          refine ⟨fun z => by omega, fun z => by omega, fun z => by omega, fun z => by omega, fun z => by omega, fun z => by omega, fun z => by omega, fun _ => ?_⟩
          have lb : qL (rawL h a (bk a) (mcn a)) (bk a) = enc (qL h a) (qC h a) := by simp [qL, rawL, e2]
          rw [lb, z6]
          congr 1
          rw [enc_len z3]
          exact arrV_congr (fun j _ => by rw [enc_get])
      · have kb : qK (rawL h a (bk a) (mcn a)) b = qK h b := by
          show (if b = a then 18 else if b = bk a ∧ 0 < qC h a then 19 else h.1 b) = h.1 b
          rw [if_neg eba, if_neg ebe]
        rw [kb] at hb
        obtain ⟨b1, b2, b3⟩ := p1 b hb
        refine ⟨b1, b2, b3.kept rfl kb (fun f => by simp [qF, rawL, eba]) rfl ?_ rfl rfl⟩
        show (if b = bk a ∧ 0 < qC h a then _ else h.2.2.1 b) = h.2.2.1 b
        rw [if_neg ebe]
  · have eba : b ≠ a := fun e => by
      have hb' : (if b = a then 18 else if b = bk a ∧ 0 < qC h a then 19 else h.1 b) = 11 := hb
      rw [if_pos e] at hb'; omega
    have ebe : ¬ (b = bk a ∧ 0 < qC h a) := fun e => by
      have hb' : (if b = a then 18 else if b = bk a ∧ 0 < qC h a then 19 else h.1 b) = 11 := hb
      rw [if_neg eba, if_pos e] at hb'; omega
    have kb : qK (rawL h a (bk a) (mcn a)) b = qK h b := by
      show (if b = a then 18 else if b = bk a ∧ 0 < qC h a then 19 else h.1 b) = h.1 b
      rw [if_neg eba, if_neg ebe]
    rw [kb] at hb
    have z := p2 b hb
    unfold qLB at z ⊢
    have lb : qL (rawL h a (bk a) (mcn a)) b = qL h b := by
      show (if b = bk a ∧ 0 < qC h a then _ else h.2.2.1 b) = h.2.2.1 b
      rw [if_neg ebe]
    rw [lb, show qC (rawL h a (bk a) (mcn a)) b = qC h b from rfl]
    rcases z with z | ⟨z1, z2, z3, z4, z5, z6⟩
    · exact Or.inl z
    · refine Or.inr ⟨z1, z2, z3, z4, ?_, z6⟩
      show (if bk b = a then 18 else if bk b = bk a ∧ 0 < qC h a then 19 else h.1 (bk b)) = 0
      rw [if_neg (fun e => by rw [e, hk] at z5; omega), if_neg (fun e => eba (p3 b a hb hk z1 e.2 e.1))]
      exact z5
  · have eba : b ≠ a := fun e => by
      have hb' : (if b = a then 18 else if b = bk a ∧ 0 < qC h a then 19 else h.1 b) = 11 := hb
      rw [if_pos e] at hb'; omega
    have ebe : ¬ (b = bk a ∧ 0 < qC h a) := fun e => by
      have hb' : (if b = a then 18 else if b = bk a ∧ 0 < qC h a then 19 else h.1 b) = 11 := hb
      rw [if_neg eba, if_pos e] at hb'; omega
    have eca : c ≠ a := fun e => by
      have hb' : (if c = a then 18 else if c = bk a ∧ 0 < qC h a then 19 else h.1 c) = 11 := hc
      rw [if_pos e] at hb'; omega
    have ece : ¬ (c = bk a ∧ 0 < qC h a) := fun e => by
      have hb' : (if c = a then 18 else if c = bk a ∧ 0 < qC h a then 19 else h.1 c) = 11 := hc
      rw [if_neg eca, if_pos e] at hb'; omega
    have hb' : (if b = a then 18 else if b = bk a ∧ 0 < qC h a then 19 else h.1 b) = 11 := hb
    have hc' : (if c = a then 18 else if c = bk a ∧ 0 < qC h a then 19 else h.1 c) = 11 := hc
    rw [if_neg eba, if_neg ebe] at hb'
    rw [if_neg eca, if_neg ece] at hc'
    exact p3 b c hb' hc' hc0 hd0 hbc
  · rcases hLB with ⟨z1, z2, z3⟩ | ⟨z1, -⟩
    · exact ⟨z2, z3⟩
    · omega
/-- a raw list closed: it holds xs, with room for c -/
theorem HP.close1 {E : EV} {h h1 : AH} {H : Heap} {a e c : Nat} {m : Int32} {xs : List Nat} (hp : HP E h H) (hk : qK h a = 18) (hm : qF h 1000 a = .int m) (he : qF h 1001 a = .ref e) (hn : qF h 1002 a = .int (nI xs.length))
    (hc : (c = 0 ∧ e = eZ E ∧ xs = []) ∨ (0 < c ∧ (10 ≤ c ∧ c < 40000) ∧ xs.length ≤ c ∧ qK h e = 19 ∧ qL h e = enc xs c))
    (eK : ∀ b, qK h1 b = if b = a then 11 else if b = e ∧ 0 < c then 0 else qK h b) (eF : ∀ f b, b ≠ a → qF h1 f b = qF h f b) (eL : ∀ b, qL h1 b = if b = a then xs else qL h b) (eC : ∀ b, qC h1 b = if b = a then c else qC h b) (eI : qI h1 = qI h) : HP E h1 H := by
  obtain ⟨bk, mcn, p1, p2, p3⟩ := hp
  have hea : 0 < c → e ≠ a := by
    intro h0 z
    rcases hc with ⟨z1, -⟩ | ⟨-, -, -, z4, -⟩
    · omega
    · rw [z, hk] at z4; omega
  refine ⟨fun b => if b = a then e else bk b, fun b => if b = a then m else mcn b, fun b hb => ?_, fun b hb => ?_, fun b d hb hd hb0 hd0 hbd => ?_⟩
  · by_cases eba : b = a
    · subst eba
      obtain ⟨b1, b2, z1, z2, z3, z4, z5, z6, z7, z8⟩ := p1 b (by omega)
      refine ⟨b1, b2, ?_⟩
      have kb : qK h1 b = 11 := by rw [eK, if_pos rfl]
      unfold qAt
      rw [kb]
      refine ⟨fun z => by omega, fun _ => ?_, fun z => by omega, fun z => by omega, fun z => by omega, fun z => by omega, fun z => by omega, fun z => by omega⟩
      refine t_OB.to (z3 hk) (fun k hk3 => ?_)
      rcases (show k = 0 ∨ k = 1 ∨ k = 2 by omega) with rfl | rfl | rfl
      · simp [qLV, hm]
      · simp [qLV, he]
      · simp only [qLV, eL, if_pos]; exact hn
    · have kb := eK b
      rw [if_neg eba] at kb
      by_cases ebe : b = e ∧ 0 < c
      · rw [if_pos ebe] at kb; exact absurd kb hb
      · rw [if_neg ebe] at kb
        rw [kb] at hb
        obtain ⟨b1, b2, b3⟩ := p1 b hb
        exact ⟨b1, b2, b3.kept rfl kb (fun f => eF f b eba) (by rw [eI]) (by rw [eL, if_neg eba]) (by simp [eba]) (by simp [eba])⟩
  · by_cases eba : b = a
    · subst eba
      unfold qLB
      rw [eC, if_pos rfl, eL, if_pos rfl]
      simp only [if_pos]
      rcases hc with ⟨z1, z2, z3⟩ | ⟨z1, z2, z3, z4, z5⟩
      · exact Or.inl ⟨z1, z2, z3⟩
      · obtain ⟨b1, b2, -, -, -, -, -, -, -, z8⟩ := p1 e (by omega)
        refine Or.inr ⟨z1, z2, z3, b1, by rw [eK, if_neg (hea z1), if_pos ⟨rfl, z1⟩], ?_⟩
        rw [z8 z4, z5]
        congr 1
        rw [enc_len z3]
        exact arrV_congr (fun j _ => by rw [enc_get])
    · have kb := eK b
      rw [if_neg eba] at kb
      have ebe : ¬ (b = e ∧ 0 < c) := fun z => by rw [if_pos z] at kb; omega
      rw [if_neg ebe] at kb
      rw [kb] at hb
      have z := p2 b hb
      unfold qLB at z ⊢
      rw [eC, if_neg eba, eL, if_neg eba]
      simp only [if_neg eba]
      rcases z with z | ⟨z1, z2, z3, z4, z5, z6⟩
      · exact Or.inl z
      · refine Or.inr ⟨z1, z2, z3, z4, ?_, z6⟩
        rw [eK, if_neg (fun y => by rw [y, hk] at z5; omega)]
        split
        · rfl
        · exact z5
  · have hne : ∀ x, qK h1 x = 11 → x ≠ a → qK h x = 11 := by
      intro x hx hxa
      have kx := eK x
      rw [if_neg hxa] at kx
      by_cases y : x = e ∧ 0 < c
      · rw [if_pos y] at kx; omega
      · rw [if_neg y] at kx; omega
    have hbk : ∀ x, qK h1 x = 11 → x ≠ a → 0 < qC h1 x → 0 < c → bk x ≠ e := by
      intro x hx hxa hx0 h0 y
      have z := p2 x (hne x hx hxa)
      rw [eC, if_neg hxa] at hx0
      rcases z with ⟨z, -⟩ | ⟨-, -, -, -, z5, -⟩
      · omega
      · rw [y] at z5
        rcases hc with ⟨w, -⟩ | ⟨-, -, -, w, -⟩ <;> omega
    by_cases eba : b = a <;> by_cases eda : d = a
    · rw [eba, eda]
    · subst eba
      simp only [if_pos, if_neg eda] at hbd
      rw [eC, if_pos rfl] at hb0
      exact absurd hbd.symm (hbk d hd eda hd0 hb0)
    · subst eda
      simp only [if_pos, if_neg eba] at hbd
      rw [eC, if_pos rfl] at hd0
      exact absurd hbd (hbk b hb eba hb0 hd0)
    · simp only [if_neg eba, if_neg eda] at hbd
      rw [eC, if_neg eba] at hb0
      rw [eC, if_neg eda] at hd0
      exact p3 b d (hne b hb eba) (hne d hd eda) hb0 hd0 hbd
