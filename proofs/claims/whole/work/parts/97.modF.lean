/-! WHAT IS TRUE OF A MODULE'S CODES -/
def CKm (n : Nat) (m : Md) : Prop := CK (mdC m).1 (mdC m).2 n
theorem CK.le {F : List Fi} {C : List In} {p q : Nat} (h : CK F C p) (hq : p ≤ q) : CK F C q := ⟨h.1.le hq, h.2⟩
theorem CK_nil {p : Nat} : CK [] [] p := ⟨⟨fun I hI => (by cases hI), fun i => by
    have : sk ([] : List In) i = [] := by
      have := sk_big (C := ([] : List In)) i
      rw [show ([] : List In).length + i = i from Nat.zero_add i] at this
      exact this
    rw [this]
    exact Nat.zero_le _, Nat.zero_le _, Nat.zero_le _⟩, rfl, fun k x hx => (by cases hx), fun f g x y _ hx => (by cases hx)⟩
theorem pSe_C {t : Nat → UInt8} {n : Nat} {m m2 : Md} {id q e q2 : Nat} (he : e ≤ n) (hq : q ≤ e) (h : pSe t m id q e = .inl (m2, q2)) (hl : CKm n m) : CKm n m2 := by
  have hq2 := pSe_le hq h
  unfold pSe at h
  split at h
  · obtain ⟨_, _, _, h⟩ := bR_inl h
    cases h
    exact hl
  split at h
  · obtain ⟨l, q1, hv, h⟩ := bR_inl h
    cases h
    exact hl
  split at h
  · obtain ⟨l, q1, hv, h⟩ := bR_inl h
    cases h
    exact hl
  split at h
  · obtain ⟨l, q1, hv, h⟩ := bR_inl h
    cases h
    exact hl
  split at h
  · obtain ⟨l, q1, hv, h⟩ := bR_inl h
    cases h
    exact hl
  split at h
  · obtain ⟨l, q1, hv, h⟩ := bR_inl h
    cases h
    exact hl
  split at h
  · obtain ⟨l, q1, hv, h⟩ := bR_inl h
    cases h
    exact hl
  split at h
  · obtain ⟨l, q1, hv, h⟩ := bR_inl h
    cases h
    exact hl
  obtain ⟨x, q1, hv, h⟩ := bR_inl h
  cases h
  unfold pCS at hv
  obtain ⟨k, q3, h3, hv⟩ := bR_inl hv
  have := pCds_f _ _ _ _ _ _ hv CK_nil
  exact this.le (by omega)
theorem pMd_C {t : Nat → UInt8} {n : Nat} : ∀ (f last p : Nat) (m m2 : Md) (q : Nat), pMd t n f last m p = .inl (m2, q) → CKm n m → CKm n m2
  | 0, _, _, _, _, _, h, _ => by cases h
  | f + 1, last, p, m, m2, q, h, hm => by
    rw [pMd] at h
    split at h
    · cases h
      exact hm
    · obtain ⟨x, q1, h1, h⟩ := bR_inl h
      obtain ⟨m3, q3, h3, h⟩ := bR_inl h
      split at h
      · cases h
      · have := pId_l (id := x.1) (B := x.2) h1
        exact pMd_C f _ _ _ _ _ h (pSe_C (by omega) (by omega) h3 hm)
theorem elAll_le {l : List El} {k : Nat} (h : ∀ x ∈ l, x.2.2.length ≤ k) : (elAll l).length ≤ k * l.length := by
  induction l with
  | nil => exact Nat.zero_le _
  | cons a r ih =>
    have h1 := h a List.mem_cons_self
    have h2 := ih fun x hx => h x (List.mem_cons_of_mem _ hx)
    have e : elAll (a :: r) = a.2.2 ++ elAll r := List.flatMap_cons ..
    rw [e, List.length_append, List.length_cons, Nat.mul_add]
    omega
/-- all that the judge needs of a module that was read -/
theorem pMo_ok {t : Nat → UInt8} {n q : Nat} {m : Md} (hn : n ≤ 4000) (hl : lenM m) (h : pMo t n = .inl (m, q)) : fcM t n m ∧ okMd m ∧ (mdC m).2.length ≤ 4000 ∧ (elAll (mdL m)).length ≤ 4000 := by
  obtain ⟨hf, hlen⟩ := pMo_f h
  unfold pMo at h
  obtain ⟨_, p, h1, h⟩ := bR_inl h
  obtain ⟨m1, p1, h2, h⟩ := bR_inl h
  have hC0 : CKm n md0 := CK_nil
  have hC := pMd_C _ _ _ _ _ _ h2 hC0
  unfold pEnd at h
  split at h
  · cases h
    obtain ⟨⟨c1, c2, c3, c4⟩, c5, c6, c7⟩ := hC
    have fi : ∀ f, f < (mdC m).1.length → (mdC m).1[f]? = some (fiAt m f) := fun f hfl => by
      unfold fiAt
      rw [List.getElem?_eq_getElem hfl]
      rfl
    refine ⟨hf, ⟨hlen, fun x hx => ?_, ⟨c1, by omega, c2⟩, fun f hfl => (c6 f _ (fi f hfl)).1, fun f g hfg hg => c7 f g _ _ hfg (fi f (by omega)) (fi g hg)⟩, by omega, ?_⟩
    · obtain ⟨k, hk⟩ := List.mem_iff_getElem?.mp hx
      exact (c6 k x hk).2
    · have h60 := elAll_le (l := mdL m) (k := 60) fun x hx => (hf.2.2.2.2.2.2 x hx).2.1
      have : (mdL m).length ≤ 60 := hl.2.2.2.2.2.2.1
      omega
  · cases h
