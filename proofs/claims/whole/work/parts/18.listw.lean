/-! LISTS, WRITTEN -/
def lIns (xs : List Nat) (i x : Nat) : List Nat := xs.take i ++ x :: xs.drop i
def lDel (xs : List Nat) (i : Nat) : List Nat := xs.take i ++ xs.drop (i + 1)
/-- the room of a list of n behind one more -/
def gcap (n c : Nat) : Nat := if n < c then c else if c = 0 then 10 else c + max 1 (c / 2)
theorem gcap_le (n c : Nat) : c ≤ gcap n c := by unfold gcap; split <;> (try split) <;> omega
theorem gcap_gt {n c : Nat} (h : n ≤ c) : n < gcap n c := by unfold gcap; split <;> (try split) <;> omega
theorem enc_getD (xs : List Nat) (c j : Nat) : (enc xs c).getD j 0 = if j < xs.length then xs.getD j 0 + 1 else 0 := by
  unfold enc
  rw [List.getD_eq_getElem?_getD]
  by_cases hj : j < xs.length
  · rw [if_pos hj, List.getElem?_append_left (by simpa using hj), List.getElem?_map, List.getD_eq_getElem?_getD, List.getElem?_eq_getElem hj]
    rfl
  · rw [if_neg hj, List.getElem?_append_right (by simpa using hj), List.getElem?_replicate]
    split <;> rfl
theorem ext_getD {r1 r2 : List Nat} (hl : r1.length = r2.length) (h : ∀ j, j < r1.length → r1.getD j 0 = r2.getD j 0) : r1 = r2 := by
  refine List.ext_getElem hl (fun j h1 h2 => ?_)
  have := h j h1
  rw [List.getD_eq_getElem?_getD, List.getD_eq_getElem?_getD, List.getElem?_eq_getElem h1, List.getElem?_eq_getElem h2] at this
  exact this
theorem lset_getD {r : List Nat} {i j x : Nat} (hj : j < r.length) : (r.set i x).getD j 0 = if j = i then x else r.getD j 0 := by
  rw [List.getD_eq_getElem?_getD, List.getD_eq_getElem?_getD]
  by_cases e : j = i
  · subst e; simp [hj]
  · rw [if_neg e, List.getElem?_set_ne (Ne.symm e)]
theorem ins_len {xs : List Nat} {i x : Nat} (hi : i ≤ xs.length) : (lIns xs i x).length = xs.length + 1 := by simp [lIns]; omega
theorem del_len {xs : List Nat} {i : Nat} (hi : i < xs.length) : (lDel xs i).length = xs.length - 1 := by simp [lDel]; omega
theorem ins_getD {xs : List Nat} {i x j : Nat} (hi : i ≤ xs.length) : (lIns xs i x).getD j 0 = if j < i then xs.getD j 0 else if j = i then x else xs.getD (j - 1) 0 := by
  unfold lIns
  simp only [List.getD_eq_getElem?_getD]
  by_cases h1 : j < i
  · rw [if_pos h1, List.getElem?_append_left (by simp; omega), List.getElem?_take_of_lt h1]
  · rw [if_neg h1, List.getElem?_append_right (by simp; omega)]
    have hl : (xs.take i).length = i := by simp; omega
    rw [hl]
    by_cases h2 : j = i
    · rw [if_pos h2, h2, Nat.sub_self]; rfl
    · rw [if_neg h2]
      obtain ⟨k, hk⟩ : ∃ k, j - i = k + 1 := ⟨j - i - 1, by omega⟩
      rw [hk, List.getElem?_cons_succ, List.getElem?_drop]
      congr 2
      omega
theorem del_getD {xs : List Nat} {i j : Nat} (hi : i < xs.length) : (lDel xs i).getD j 0 = if j < i then xs.getD j 0 else xs.getD (j + 1) 0 := by
  unfold lDel
  simp only [List.getD_eq_getElem?_getD]
  by_cases h1 : j < i
  · rw [if_pos h1, List.getElem?_append_left (by simp; omega), List.getElem?_take_of_lt h1]
  · rw [if_neg h1, List.getElem?_append_right (by simp; omega)]
    have hl : (xs.take i).length = i := by simp; omega
    rw [hl, List.getElem?_drop]
    congr 2
    omega
theorem enc_add {xs : List Nat} {c x : Nat} (h : xs.length < c) : (enc xs c).set xs.length (x + 1) = enc (xs ++ [x]) c := by
  refine ext_getD (by rw [List.length_set, enc_len (by omega), enc_len (by simp; omega)]) (fun j hj => ?_)
  rw [List.length_set] at hj
  rw [lset_getD hj, enc_getD, enc_getD]
  simp only [List.length_append, List.length_singleton, List.getD_eq_getElem?_getD]
  by_cases e : j = xs.length
  · rw [if_pos e, if_pos (by omega), e, List.getElem?_append_right (by omega)]; simp
  · rw [if_neg e]
    by_cases l : j < xs.length
    · rw [if_pos l, if_pos (by omega), List.getElem?_append_left l]
    · rw [if_neg l, if_neg (by omega)]
theorem enc_ins {xs : List Nat} {c x i : Nat} (h : xs.length < c) (hi : i ≤ xs.length) : (rcp (enc xs c) (enc xs c) i (i + 1) (xs.length - i)).set i (x + 1) = enc (lIns xs i x) c := by
  have hc : (enc xs c).length = c := enc_len (by omega)
  refine ext_getD (by rw [List.length_set, rcp_len, hc, enc_len (by rw [ins_len hi]; omega)]) (fun j hj => ?_)
  rw [List.length_set] at hj
  have hj' : j < (enc xs c).length := by rw [rcp_len] at hj; exact hj
  rw [lset_getD hj, rcp_get hj', enc_getD, enc_getD, enc_getD, ins_len hi, ins_getD hi]
  by_cases e1 : j = i
  · rw [if_pos e1, if_pos (by omega), if_neg (by omega), if_pos e1]
  · rw [if_neg e1]
    by_cases e2 : j < i
    · rw [if_neg (by omega), if_pos (by omega), if_pos (by omega), if_pos e2]
    · by_cases e3 : j < xs.length + 1
      · rw [if_pos (by omega), if_pos (by omega), if_pos e3, if_neg e2, if_neg e1, show i + (j - (i + 1)) = j - 1 by omega]
      · rw [if_neg (by omega), if_neg (by omega), if_neg e3]
theorem enc_del {xs : List Nat} {c i : Nat} (h : xs.length ≤ c) (hi : i < xs.length) (r : List Nat) (hr : r = if i < xs.length - 1 then rcp (enc xs c) (enc xs c) (i + 1) i (xs.length - 1 - i) else enc xs c) : r.set (xs.length - 1) 0 = enc (lDel xs i) c := by
  have hc : (enc xs c).length = c := enc_len h
  have hrl : r.length = c := by rw [hr]; split <;> simp [rcp_len, hc]
  refine ext_getD (by rw [List.length_set, hrl, enc_len (by rw [del_len hi]; omega)]) (fun j hj => ?_)
  rw [List.length_set] at hj
  rw [lset_getD hj, enc_getD, del_len hi, del_getD hi]
  have hj' : j < (enc xs c).length := by omega
  by_cases e1 : j = xs.length - 1
  · rw [if_pos e1, if_neg (by omega)]
  · rw [if_neg e1, hr]
    by_cases e2 : i < xs.length - 1
    · rw [if_pos e2, rcp_get hj', enc_getD, enc_getD]
      by_cases e3 : j < i
      · rw [if_neg (by omega), if_pos (by omega), if_pos (by omega), if_pos e3]
      · by_cases e4 : j < xs.length - 1
        · rw [if_pos (by omega), if_pos (by omega), if_pos e4, if_neg e3, show i + 1 + (j - i) = j + 1 by omega]
        · rw [if_neg (by omega), if_neg (by omega), if_neg e4]
    · rw [if_neg e2, enc_getD]
      by_cases e4 : j < xs.length - 1
      · rw [if_pos (by omega), if_pos e4, if_pos (by omega)]
      · rw [if_neg (by omega), if_neg e4]
theorem enc_grow {xs : List Nat} {c N : Nat} (h : xs.length = c) (hN : c ≤ N) : rcp (enc xs c) (List.replicate N 0) 0 0 c = enc xs N := by
  refine ext_getD (by rw [rcp_len, List.length_replicate, enc_len (by omega)]) (fun j hj => ?_)
  rw [rcp_len] at hj
  rw [rcp_get hj, enc_getD, enc_getD]
  by_cases e : j < c
  · rw [if_pos (by omega), if_pos (by omega), if_pos (by omega)]
    congr 2; omega
  · rw [if_neg (by omega), if_neg (by omega), List.getD_eq_getElem?_getD, List.getElem?_replicate]
    split <;> rfl
theorem rdc_enc {xs : List Nat} {c j y : Nat} (h : rdc ((enc xs c).getD j 0) = some y) : y ∈ xs := by
  rw [enc_get] at h
  exact List.mem_of_getElem? h
/-- an open list, written, closed: the heap with the new list -/
theorem cl_to {E : EV} {Γ : VG} {b : Nat} {h hr : AH} {pc : Nat} {lv : List (Nat × Value)} {st : List Value} {a e c : Nat} {m : Int32} {xs : List Nat} (hk : qK h a = 11) (k1 : qK hr a = 18) (hm : qF hr 1000 a = .int m) (he : qF hr 1001 a = .ref e) (hn : qF hr 1002 a = .int (nI xs.length))
    (hc : (c = 0 ∧ e = eZ E ∧ xs = []) ∨ (0 < c ∧ (10 ≤ c ∧ c < 40000) ∧ xs.length ≤ c ∧ qK hr e = 19 ∧ qL hr e = enc xs c)) (h0 : 0 < c → qK h e = 0)
    (eK : ∀ b, b ≠ a → ¬ (b = e ∧ 0 < c) → qK hr b = qK h b) (eF : ∀ f b, b ≠ a → qF hr f b = qF h f b) (eL : ∀ b, b ≠ a → qK h b ≠ 0 → qL hr b = qL h b) (eC : ∀ b, b ≠ a → qK h b ≠ 0 → qC hr b = qC h b) (eI : ∀ b, qK h b ≠ 0 → qI hr b = qI h b) (k : V E Γ b (sL h a xs c) pc lv st) : V E Γ b hr pc lv st := by
  refine V_close (h1 := (qK h, qF hr, (fun b => if b = a then xs else qL hr b), (fun b => if b = a then c else qC hr b), qI hr)) k1 hm he hn hc (fun b => ?_) (fun f b hb => rfl) (fun b => rfl) (fun b => rfl) rfl ?_
  · show qK h b = _
    by_cases e1 : b = a
    · rw [if_pos e1, e1]; exact hk
    · rw [if_neg e1]
      by_cases e2 : b = e ∧ 0 < c
      · rw [if_pos e2, e2.1]; exact h0 e2.2
      · rw [if_neg e2, eK b e1 e2]
  · refine V_congr (h1 := sL h a xs c) rfl (fun f b hb => ?_) (fun b hb => ?_) (fun b hb => ?_) (fun b hb => (eI b hb).symm) k
    · show qF h f b = qF hr f b
      by_cases e1 : b = a
      · exact absurd (by rw [e1]; exact hk) hb
      · exact (eF f b e1).symm
    · have hb' : qK h b = 11 := hb
      show (if b = a then xs else qL h b) = (if b = a then xs else qL hr b) ∧ (if b = a then c else qC h b) = (if b = a then c else qC hr b)
      by_cases e1 : b = a
      · rw [if_pos e1, if_pos e1, if_pos e1, if_pos e1]; exact ⟨rfl, rfl⟩
      · rw [if_neg e1, if_neg e1, if_neg e1, if_neg e1, eL b e1 (by omega), eC b e1 (by omega)]; exact ⟨rfl, rfl⟩
    · have hb' : qK h b = 19 := hb
      show (if b = a then xs else qL h b) = (if b = a then xs else qL hr b)
      by_cases e1 : b = a
      · rw [if_pos e1, if_pos e1]
      · rw [if_neg e1, if_neg e1, eL b e1 (by omega)]
