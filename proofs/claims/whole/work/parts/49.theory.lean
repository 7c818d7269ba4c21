/-! OPERATIONS THAT PASS EACH OTHER -/
def fI (f : Nat → Option Nat) (p x : Nat) : Nat → Option Nat := fun i => if i < p then f i else if i = p then some x else f (i - 1)
def fD (f : Nat → Option Nat) (p : Nat) : Nat → Option Nat := fun i => if i < p then f i else f (i + 1)
theorem fI_l {f : Nat → Option Nat} {p x i : Nat} (h : i < p) : fI f p x i = f i := if_pos h
theorem fI_e {f : Nat → Option Nat} {p x i : Nat} (h : i = p) : fI f p x i = some x := by
  unfold fI
  rw [if_neg (by omega), if_pos h]
theorem fI_g {f : Nat → Option Nat} {p x i : Nat} (h : p < i) : fI f p x i = f (i - 1) := by
  unfold fI
  rw [if_neg (by omega), if_neg (by omega)]
theorem fD_l {f : Nat → Option Nat} {p i : Nat} (h : i < p) : fD f p i = f i := if_pos h
theorem fD_g {f : Nat → Option Nat} {p i : Nat} (h : p ≤ i) : fD f p i = f (i + 1) := if_neg (by omega)
theorem fII {f : Nat → Option Nat} {p q x y : Nat} (h : q ≤ p) : fI (fI f q y) (p + 1) x = fI (fI f p x) q y := by
  funext i
  rcases Nat.lt_trichotomy i q with a | a | a
  · rw [fI_l (show i < p + 1 by omega), fI_l a, fI_l a, fI_l (show i < p by omega)]
  · rw [fI_l (show i < p + 1 by omega), fI_e a, fI_e a]
  · rcases Nat.lt_trichotomy i (p + 1) with b | b | b
    · rw [fI_l b, fI_g a, fI_g a, fI_l (show i - 1 < p by omega)]
    · rw [fI_e b, fI_g a, fI_e (show i - 1 = p by omega)]
    · rw [fI_g b, fI_g (show q < i - 1 by omega), fI_g a, fI_g (show p < i - 1 by omega)]
theorem fID1 {f : Nat → Option Nat} {p q x : Nat} (h : q < p) : fI (fD f q) (p - 1) x = fD (fI f p x) q := by
  funext i
  rcases Nat.lt_or_ge i q with a | a
  · rw [fI_l (show i < p - 1 by omega), fD_l a, fD_l a, fI_l (show i < p by omega)]
  · rw [fD_g (f := fI f p x) a]
    rcases Nat.lt_trichotomy i (p - 1) with b | b | b
    · rw [fI_l b, fD_g a, fI_l (show i + 1 < p by omega)]
    · rw [fI_e b, fI_e (show i + 1 = p by omega)]
    · rw [fI_g b, fD_g (show q ≤ i - 1 by omega), fI_g (show p < i + 1 by omega)]
      exact congrArg f (by omega)
theorem fID2 {f : Nat → Option Nat} {p q x : Nat} (h : p ≤ q) : fI (fD f q) p x = fD (fI f p x) (q + 1) := by
  funext i
  rcases Nat.lt_trichotomy i p with a | a | a
  · rw [fI_l a, fD_l (show i < q by omega), fD_l (show i < q + 1 by omega), fI_l a]
  · rw [fI_e a, fD_l (show i < q + 1 by omega), fI_e a]
  · rw [fI_g a]
    rcases Nat.lt_or_ge i (q + 1) with b | b
    · rw [fD_l (show i - 1 < q by omega), fD_l b, fI_g a]
    · rw [fD_g (show q ≤ i - 1 by omega), fD_g b, fI_g (show p < i + 1 by omega)]
      exact congrArg f (by omega)
theorem fDD {f : Nat → Option Nat} {p q : Nat} (h : q < p) : fD (fD f q) (p - 1) = fD (fD f p) q := by
  funext i
  rcases Nat.lt_or_ge i q with a | a
  · rw [fD_l (show i < p - 1 by omega), fD_l a, fD_l a, fD_l (show i < p by omega)]
  · rw [fD_g (f := fD f p) a]
    rcases Nat.lt_or_ge i (p - 1) with b | b
    · rw [fD_l b, fD_g a, fD_l (show i + 1 < p by omega)]
    · rw [fD_g b, fD_g (show q ≤ i + 1 by omega), fD_g (show p ≤ i + 1 by omega)]
/-- fit for a text of n letters -/
def vO (o : SO) (n : Nat) : Prop := (o.1 = 0 ∧ o.2.1 = 0) ∨ (o.1 = 1 ∧ o.2.1 ≤ n) ∨ (o.1 = 2 ∧ o.2.1 < n)
def vS : List SO → List Nat → Prop
  | [], _ => True
  | o :: O, xs => vO o xs.length ∧ vS O (apO o xs)
def fO (o : SO) (f : Nat → Option Nat) : Nat → Option Nat := if o.1 = 1 then fI f o.2.1 o.2.2.1 else if o.1 = 2 then fD f o.2.1 else f
theorem ap_0 {o : SO} {xs : List Nat} (h : o.1 = 0) : apO o xs = xs := by
  unfold apO
  rw [if_neg (fun z => by omega), if_neg (fun z => by omega)]
theorem ap_1 {o : SO} {xs : List Nat} (h : o.1 = 1) (hp : o.2.1 ≤ xs.length) : apO o xs = xs.take o.2.1 ++ o.2.2.1 :: xs.drop o.2.1 := by
  unfold apO
  rw [if_pos ⟨h, hp⟩]
theorem ap_2 {o : SO} {xs : List Nat} (h : o.1 = 2) (hp : o.2.1 < xs.length) : apO o xs = xs.take o.2.1 ++ xs.drop (o.2.1 + 1) := by
  unfold apO
  rw [if_neg (fun z => by omega), if_pos ⟨h, hp⟩]
theorem al_1 {o : SO} {xs : List Nat} (h : o.1 = 1) (hp : o.2.1 ≤ xs.length) : (apO o xs).length = xs.length + 1 := by
  rw [ap_1 h hp, List.length_append, List.length_cons, List.length_take, List.length_drop]; omega
theorem al_2 {o : SO} {xs : List Nat} (h : o.1 = 2) (hp : o.2.1 < xs.length) : (apO o xs).length = xs.length - 1 := by
  rw [ap_2 h hp, List.length_append, List.length_take, List.length_drop]; omega
theorem fO_ap {o : SO} {xs : List Nat} (h : vO o xs.length) : (fun i => (apO o xs)[i]?) = fO o (fun i => xs[i]?) := by
  rcases h with ⟨h, -⟩ | ⟨h, hp⟩ | ⟨h, hp⟩
  · unfold fO
    rw [ap_0 h, if_neg (by omega), if_neg (by omega)]
  · unfold fO
    rw [ap_1 h hp, if_pos h]
    funext i
    show _ = if i < o.2.1 then xs[i]? else if i = o.2.1 then some o.2.2.1 else xs[i - 1]?
    have hl : (xs.take o.2.1).length = o.2.1 := by rw [List.length_take]; omega
    by_cases a : i < o.2.1
    · rw [if_pos a, List.getElem?_append_left (by omega), List.getElem?_take_of_lt a]
    · rw [if_neg a, List.getElem?_append_right (by omega), hl]
      by_cases b : i = o.2.1
      · rw [if_pos b, b, Nat.sub_self]; rfl
      · rw [if_neg b]
        obtain ⟨k, hk⟩ : ∃ k, i - o.2.1 = k + 1 := ⟨i - o.2.1 - 1, by omega⟩
        rw [hk, List.getElem?_cons_succ, List.getElem?_drop]
        exact congrArg (fun j => xs[j]?) (by omega)
  · unfold fO
    rw [ap_2 h hp, if_neg (by omega), if_pos h]
    funext i
    show _ = if i < o.2.1 then xs[i]? else xs[i + 1]?
    have hl : (xs.take o.2.1).length = o.2.1 := by rw [List.length_take]; omega
    by_cases a : i < o.2.1
    · rw [if_pos a, List.getElem?_append_left (by omega), List.getElem?_take_of_lt a]
    · rw [if_neg a, List.getElem?_append_right (by omega), hl, List.getElem?_drop]
      exact congrArg (fun j => xs[j]?) (by omega)
/-- what becomes of an operation, in words -/
theorem trb_n (a b : SO) (h : a.1 = 0 ∨ b.1 = 0) : trb a b = a := by unfold trb trf; rw [if_pos h]
theorem trb_1 {a b : SO} (ha : a.1 ≠ 0) (hb : b.1 = 1) : trb a b = if b.2.1 < a.2.1 ∨ (b.2.1 = a.2.1 ∧ (a.1 = 2 ∨ b.2.2.2 = 0)) then (a.1, a.2.1 + 1, a.2.2) else a := by
  unfold trb trf
  rw [if_neg (by omega), if_pos hb]
theorem trb_2 {a b : SO} (ha : a.1 ≠ 0) (hb : b.1 = 2) : trb a b = if b.2.1 < a.2.1 then (a.1, a.2.1 - 1, a.2.2) else if a.1 = 2 ∧ b.2.1 = a.2.1 then (0, 0, a.2.2) else a := by
  unfold trb trf
  rw [if_neg (by omega), if_neg (by omega)]
theorem trb_m (a b : SO) (h : a.1 ≤ 2) : (trb a b).2.2 = a.2.2 := (trf_bnd a b.1 b.2.1 b.2.2.2 h).2.2
/-- two ways about, the same text -/
theorem tpf {a b : SO} (f : Nat → Option Nat) (ha : a.1 ≤ 2) (hb : b.1 ≤ 2) (hm : a.2.2.2 ≠ b.2.2.2) (h1 : a.2.2.2 ≤ 1) (h2 : b.2.2.2 ≤ 1) : fO (trb a b) (fO b f) = fO (trb b a) (fO a f) := by
  have f0 : ∀ (o : SO) (g : Nat → Option Nat), o.1 = 0 → fO o g = g := fun o g e => by unfold fO; rw [if_neg (by omega), if_neg (by omega)]
  have f1 : ∀ (o : SO) (g : Nat → Option Nat), o.1 = 1 → fO o g = fI g o.2.1 o.2.2.1 := fun o g e => by unfold fO; rw [if_pos e]
  have f2 : ∀ (o : SO) (g : Nat → Option Nat), o.1 = 2 → fO o g = fD g o.2.1 := fun o g e => by unfold fO; rw [if_neg (by omega), if_pos e]
  have g1 : ∀ (k p : Nat) (z : Nat × Nat) (g : Nat → Option Nat), k = 1 → fO (k, p, z) g = fI g p z.1 := fun k p z g e => f1 (k, p, z) g e
  have g2 : ∀ (k p : Nat) (z : Nat × Nat) (g : Nat → Option Nat), k = 2 → fO (k, p, z) g = fD g p := fun k p z g e => f2 (k, p, z) g e
  rcases (show a.1 = 0 ∨ a.1 = 1 ∨ a.1 = 2 by omega) with ea | ea | ea
  · rw [trb_n a b (Or.inl ea), trb_n b a (Or.inr ea), f0 a _ ea, f0 a _ ea]
  · rcases (show b.1 = 0 ∨ b.1 = 1 ∨ b.1 = 2 by omega) with eb | eb | eb
    · rw [trb_n a b (Or.inr eb), trb_n b a (Or.inl eb), f0 b _ eb, f0 b _ eb]
    · rw [trb_1 (by omega) eb, trb_1 (by omega) ea, f1 b f eb, f1 a f ea]
      by_cases c : b.2.1 < a.2.1 ∨ (b.2.1 = a.2.1 ∧ (a.1 = 2 ∨ b.2.2.2 = 0))
      · rw [if_pos c, if_neg (by omega), g1 _ _ _ _ ea, f1 b _ eb]
        exact fII (by omega)
      · rw [if_neg c, if_pos (by omega), f1 a _ ea, g1 _ _ _ _ eb]
        exact (fII (by omega)).symm
    · rw [trb_2 (by omega) eb, trb_1 (by omega) ea, f2 b f eb, f1 a f ea]
      by_cases c : b.2.1 < a.2.1
      · rw [if_pos c, if_neg (by omega), g1 _ _ _ _ ea, f2 b _ eb]
        exact fID1 c
      · rw [if_neg c, if_neg (by omega), if_pos (by omega), f1 a _ ea, g2 _ _ _ _ eb]
        exact fID2 (by omega)
  · rcases (show b.1 = 0 ∨ b.1 = 1 ∨ b.1 = 2 by omega) with eb | eb | eb
    · rw [trb_n a b (Or.inr eb), trb_n b a (Or.inl eb), f0 b _ eb, f0 b _ eb]
    · rw [trb_1 (by omega) eb, trb_2 (by omega) ea, f1 b f eb, f2 a f ea]
      by_cases c : a.2.1 < b.2.1
      · rw [if_neg (by omega), if_pos c, f2 a _ ea, g1 _ _ _ _ eb]
        exact (fID1 c).symm
      · rw [if_pos (by omega), if_neg c, if_neg (by omega), g2 _ _ _ _ ea, f1 b _ eb]
        exact (fID2 (by omega)).symm
    · rw [trb_2 (by omega) eb, trb_2 (by omega) ea, f2 b f eb, f2 a f ea]
      rcases Nat.lt_trichotomy b.2.1 a.2.1 with c | c | c
      · rw [if_pos c, if_neg (by omega), if_neg (by omega), g2 _ _ _ _ ea, f2 b _ eb]
        exact fDD c
      · rw [if_neg (by omega), if_pos ⟨ea, c⟩, if_neg (by omega), if_pos ⟨eb, c.symm⟩, f0 _ _ rfl, f0 _ _ rfl, c]
      · rw [if_neg (by omega), if_neg (by omega), if_pos c, f2 a _ ea, g2 _ _ _ _ eb]
        exact (fDD c).symm
theorem vO_k {o : SO} {n : Nat} (h : vO o n) : o.1 ≤ 2 := by unfold vO at h; omega
theorem vO_p {o : SO} {n : Nat} (h : vO o n) : o.2.1 ≤ n := by unfold vO at h; omega
theorem vO_tr {a b : SO} {xs : List Nat} (ha : vO a xs.length) (hb : vO b xs.length) : vO (trb a b) (apO b xs).length := by
  rcases hb with ⟨eb, pb⟩ | ⟨eb, pb⟩ | ⟨eb, pb⟩
  · rw [trb_n a b (Or.inr eb), ap_0 eb]; exact ha
  · rw [al_1 eb pb]
    rcases ha with ⟨ea, pa⟩ | ⟨ea, pa⟩ | ⟨ea, pa⟩
    · rw [trb_n a b (Or.inl ea)]; exact Or.inl ⟨ea, pa⟩
    · rw [trb_1 (by omega) eb]
      split
      · exact Or.inr (Or.inl ⟨ea, by show a.2.1 + 1 ≤ _; omega⟩)
      · exact Or.inr (Or.inl ⟨ea, by omega⟩)
    · rw [trb_1 (by omega) eb]
      split
      · exact Or.inr (Or.inr ⟨ea, by show a.2.1 + 1 < _; omega⟩)
      · exact Or.inr (Or.inr ⟨ea, by omega⟩)
  · rw [al_2 eb pb]
    rcases ha with ⟨ea, pa⟩ | ⟨ea, pa⟩ | ⟨ea, pa⟩
    · rw [trb_n a b (Or.inl ea)]; exact Or.inl ⟨ea, pa⟩
    · rw [trb_2 (by omega) eb]
      split
      · exact Or.inr (Or.inl ⟨ea, by show a.2.1 - 1 ≤ _; omega⟩)
      · rw [if_neg (by omega)]
        exact Or.inr (Or.inl ⟨ea, by omega⟩)
    · rw [trb_2 (by omega) eb]
      split
      · exact Or.inr (Or.inr ⟨ea, by show a.2.1 - 1 < _; omega⟩)
      · split
        · exact Or.inl ⟨rfl, rfl⟩
        · exact Or.inr (Or.inr ⟨ea, by omega⟩)
theorem tp1 {a b : SO} {xs : List Nat} (ha : vO a xs.length) (hb : vO b xs.length) (hm : a.2.2.2 ≠ b.2.2.2) (h1 : a.2.2.2 ≤ 1) (h2 : b.2.2.2 ≤ 1) : apO (trb a b) (apO b xs) = apO (trb b a) (apO a xs) := by
  apply List.ext_getElem?
  intro i
  have e1 := fO_ap (vO_tr ha hb)
  have e2 := fO_ap (vO_tr hb ha)
  rw [fO_ap hb] at e1
  rw [fO_ap ha] at e2
  exact congrFun (e1.trans ((tpf _ (vO_k ha) (vO_k hb) hm h1 h2).trans e2.symm)) i
/-- made by e -/
def mkO (e : Nat) (O : List SO) : Prop := ∀ o ∈ O, o.2.2.2 = e
theorem vS_app : ∀ (O P : List SO) (xs : List Nat), vS (O ++ P) xs ↔ vS O xs ∧ vS P (apS O xs)
  | [], P, xs => ⟨fun h => ⟨trivial, h⟩, fun h => h.2⟩
  | o :: O, P, xs => by
    show (vO o xs.length ∧ vS (O ++ P) (apO o xs)) ↔ (vO o xs.length ∧ vS O (apO o xs)) ∧ vS P (apS O (apO o xs))
    rw [vS_app O P (apO o xs), and_assoc]
theorem vS_len : ∀ {O : List SO} {xs : List Nat}, vS O xs → ∀ o ∈ O, o.1 ≤ 2 ∧ o.2.1 ≤ xs.length + O.length
  | [], _, _, o, ho => absurd ho List.not_mem_nil
  | a :: O, xs, h, o, ho => by
    rcases List.mem_cons.mp ho with rfl | ho
    · have := vO_p h.1; exact ⟨vO_k h.1, by omega⟩
    · have h1 := vS_len h.2 o ho
      have h2 := apO_len a xs
      rw [List.length_cons]
      exact ⟨h1.1, by omega⟩
theorem crs_ok : ∀ (O : List SO) (b : SO) (xs : List Nat), vS O xs → vO b xs.length → (∀ o ∈ O, o.2.2.2 ≠ b.2.2.2 ∧ o.2.2.2 ≤ 1) → b.2.2.2 ≤ 1 → vS (crs O b) (apO b xs) ∧ vO (crp O b) (apS O xs).length ∧ apS (crs O b) (apO b xs) = apO (crp O b) (apS O xs)
  | [], b, xs, _, hb, _, _ => ⟨trivial, hb, rfl⟩
  | a :: O, b, xs, ha, hb, hm, h1 => by
    obtain ⟨m1, m2⟩ := hm a List.mem_cons_self
    have hbk := trb_m b a (vO_k hb)
    have em : (trb b a).2.2.2 = b.2.2.2 := congrArg Prod.snd hbk
    obtain ⟨p1, p2, p3⟩ := crs_ok O (trb b a) (apO a xs) ha.2 (vO_tr hb ha.1) (fun o ho => by rw [em]; exact hm o (List.mem_cons_of_mem _ ho)) (by rw [em]; exact h1)
    have e := tp1 ha.1 hb m1 m2 h1
    refine ⟨⟨vO_tr ha.1 hb, ?_⟩, p2, ?_⟩
    · rw [e]; exact p1
    · show apS (crs O (trb b a)) (apO (trb a b) (apO b xs)) = _
      rw [e]; exact p3
theorem crs_app : ∀ (O P : List SO) (b : SO), crs (O ++ P) b = crs O b ++ crs P (crp O b)
  | [], _, _ => rfl
  | a :: O, P, b => by
    show trb a b :: crs (O ++ P) (trb b a) = trb a b :: (crs O (trb b a) ++ crs P (crp O (trb b a)))
    rw [crs_app O P (trb b a)]
theorem crp_app : ∀ (O P : List SO) (b : SO), crp (O ++ P) b = crp P (crp O b)
  | [], _, _ => rfl
  | a :: O, P, b => crp_app O P (trb b a)
theorem crs_m : ∀ (O : List SO) (b : SO), b.1 ≤ 2 → (∀ o ∈ O, o.1 ≤ 2) → ∀ o ∈ crs O b, ∃ a ∈ O, o.2.2 = a.2.2
  | [], _, _, _, o, ho => absurd ho List.not_mem_nil
  | a :: O, b, hb, hO, o, ho => by
    rcases List.mem_cons.mp (show o ∈ trb a b :: crs O (trb b a) from ho) with rfl | ho
    · exact ⟨a, List.mem_cons_self, trb_m a b (hO a List.mem_cons_self)⟩
    · obtain ⟨c, hc, e⟩ := crs_m O (trb b a) (trf_bnd b a.1 a.2.1 a.2.2.2 hb).1 (fun o ho => hO o (List.mem_cons_of_mem _ ho)) o ho
      exact ⟨c, List.mem_cons_of_mem _ hc, e⟩
theorem crp_m (O : List SO) (b : SO) (hb : b.1 ≤ 2) : (crp O b).2.2 = b.2.2 := (crp_bnd O b hb).2.2
/-- a row, passed by a row -/
def passed (O : List SO) : List SO → List SO
  | [] => []
  | b :: Q => crp O b :: passed (crs O b) Q
theorem trl_cons (O : List SO) (b : SO) (Q : List SO) : trl O (b :: Q) = trl (crs O b) Q := rfl
theorem trl_ok {e f : Nat} (hef : e ≠ f) (he : e ≤ 1) (hf : f ≤ 1) : ∀ (Q O : List SO) (xs : List Nat), vS O xs → vS Q xs → mkO e O → mkO f Q → vS (trl O Q) (apS Q xs) ∧ mkO e (trl O Q) ∧ ∀ o ∈ trl O Q, ∃ a ∈ O, o.2.2 = a.2.2
  | [], O, xs, hO, _, mO, _ => ⟨hO, mO, fun o ho => ⟨o, ho, rfl⟩⟩
  | b :: Q, O, xs, hO, hQ, mO, mQ => by
    have mb : b.2.2.2 = f := mQ b List.mem_cons_self
    obtain ⟨p1, -, -⟩ := crs_ok O b xs hO hQ.1 (fun o ho => by rw [mO o ho, mb]; exact ⟨hef, he⟩) (by omega)
    have k := crs_m O b (vO_k hQ.1) (fun o ho => (vS_len hO o ho).1)
    have mc : mkO e (crs O b) := fun o ho => by
      obtain ⟨a, ha, ea⟩ := k o ho
      rw [show o.2.2.2 = a.2.2.2 from congrArg Prod.snd ea]; exact mO a ha
    obtain ⟨q1, q2, q3⟩ := trl_ok hef he hf Q (crs O b) (apO b xs) p1 hQ.2 mc (fun o ho => mQ o (List.mem_cons_of_mem _ ho))
    rw [trl_cons]
    refine ⟨q1, q2, fun o ho => ?_⟩
    obtain ⟨a, ha, ea⟩ := q3 o ho
    obtain ⟨c, hc, ec⟩ := k a ha
    exact ⟨c, hc, ea.trans ec⟩
