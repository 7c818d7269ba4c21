/-! THE MODEL: ANOTHER TABLE OF LETTERS -/
section TB
variable {tb tb' : Nat → Nat × Nat} {F : MS'}
theorem SLs.otb {L : List Nat} (ht : ∀ y ∈ L, tb' y = tb y) {B : Nat} {O : List SO} (z : SLs tb F B O) (hO : ∀ o ∈ O, wO (fun x => x ∈ L) o) : SLs tb' F B O := fun j o ho => by
  obtain ⟨a1, a2, a3, a4, a5⟩ := z j o ho
  have := hO o (List.mem_of_getElem? ho)
  unfold wO at this
  exact ⟨a1, a2, a3, fun u => ⟨by rw [ht _ this.2.2.2]; exact (a4 u).1, (a4 u).2⟩, a5⟩
theorem TM.otb {L : List Nat} (ht : ∀ y ∈ L, tb' y = tb y) {t : Nat} {xs : List Nat} (z : TM tb F t xs) (hx : ∀ y ∈ xs, y ∈ L) : TM tb' F t xs := ⟨z.1, z.2.1, fun j x hj => by
  rw [ht x (hx x (List.mem_of_getElem? hj))]; exact z.2.2 j x hj⟩
theorem RE.otb {L : List Nat} (ht : ∀ y ∈ L, tb' y = tb y) {e : Nat} {x : EQ} (z : RE tb F e x) (w : WE (fun x => x ∈ L) x) : RE tb' F e x := by
  obtain ⟨a1, a2, a3, a4, a5, a6, a7, a8, a9, a10, a11⟩ := z
  refine ⟨a1, a2.otb ht w.2.1.2, a3, a4.otb ht w.2.2.1.2, a5.otb ht w.1.2, a6, a7, a8, a9, a10, fun j k hk => ?_⟩
  obtain ⟨b1, b2, b3, b4⟩ := a11 j k hk
  have wk := w.2.2.2.1.2 k (List.mem_of_getElem? hk)
  unfold wK at wk
  exact ⟨b1, b2, by rw [ht _ wk.2.2]; exact b3, b4⟩
theorem UPm.otb {L : List Nat} (ht : ∀ y ∈ L, tb' y = tb y) {e : Nat} {u : List MG} (z : UPm tb F e u) (w : ∀ m ∈ u, wM (fun x => x ∈ L) m) : UPm tb' F e u := ⟨z.1, fun m hm => by
  obtain ⟨a, b, c⟩ := z.2 m hm
  exact ⟨a, b, c.otb ht (w m (by rw [hm]; exact List.mem_cons_self)).2.2.2⟩⟩
theorem HM.otb {L : List Nat} (ht : ∀ y ∈ L, tb' y = tb y) {H : List MG} (z : HM tb F H) (w : ∀ m ∈ H, wM (fun x => x ∈ L) m) : HM tb' F H := ⟨z.1, z.2.1, z.2.2.1.otb ht (fun o ho => by
  obtain ⟨m, hm, hom⟩ := hop_mem ho
  exact (w m hm).2.2.2 o hom), z.2.2.2⟩
theorem RM.otb {s : SQ} (ht : ∀ y ∈ zL s, tb' y = tb y) (z : RM tb F s) (w : WS' s) : RM tb' F s := ⟨fun i hi => ⟨(z.1 i hi).1.otb ht (w.1 i hi).1, (z.1 i hi).2.otb ht (w.1 i hi).2.2.1⟩, z.2.1.otb ht w.2.1.2, z.2.2.1.otb ht w.2.2.1.2, z.2.2.2⟩
end TB
