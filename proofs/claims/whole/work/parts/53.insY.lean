/-! CODES: one INSTRUCTION; the class -/
def pBt (t : Nat → UInt8) (e q : Nat) : Rr Nat := if q < e ∧ (t q).toNat = 64 then .inl (0, q + 1) else nT t e q
/-- an INSTRUCTION behind those in C: its place is p -/
def pI2 (t : Nat → UInt8) (e : Nat) (C : List In) (p op q : Nat) : Rr In :=
  if op = 11 then .inl (mkI p 11 (0, 0, []), q)
  else if op = 5 then (match sk C C.length with
    | (_, x) :: _ => if (C[x]?.map iOp) = some 4 then .inl (mkI p 5 (0, 0, []), q) else .inr (-1, nI p)
    | [] => .inr (-1, nI p))
  else if 2 ≤ op ∧ op ≤ 4 then (if 20 ≤ (sk C C.length).length then .inr (-2, nI p) else bR (pBt t e q) fun bt q2 => .inl (mkI p op (lN bt, 0, []), q2))
  else bR (pOs t e p op q) fun o q2 => .inl (mkI p op o, q2)
def pI (t : Nat → UInt8) (e : Nat) (C : List In) (p : Nat) : Rr In := bR (nN t e p) fun op q => pI2 t e C p op q
/-- the open parts are of blocks, loops, ifs, or of a 5 -/
def okO (C : List In) : Prop := ∀ o x, (o, x) ∈ sk C C.length → ∃ j, C[x]? = some j ∧ 2 ≤ iOp j ∧ iOp j ≤ 5
theorem okO.snoc {C : List In} {i : In} (h : okO C) : okO (C ++ [i]) := by
  intro o x hx
  have hs : sk (C ++ [i]) (C ++ [i]).length = skS (sk C C.length) C.length (iOp i) := by
    rw [List.length_append]
    show sk (C ++ [i]) (C.length + 1) = _
    rw [sk_succ (i := i) (by simp), sk_app (Nat.le_refl _)]
  rw [hs] at hx
  have old : ∀ o x, (o, x) ∈ sk C C.length → ∃ j, (C ++ [i])[x]? = some j ∧ 2 ≤ iOp j ∧ iOp j ≤ 5 := by
    intro o x hx
    obtain ⟨j, h1, h2⟩ := h o x hx
    exact ⟨j, by rw [List.getElem?_append_left (List.getElem?_eq_some_iff.mp h1).1]; exact h1, h2⟩
  unfold skS at hx
  split at hx
  · exact old o x (List.mem_of_mem_tail hx)
  · split at hx
    next h5 =>
      split at hx
      next o2 x2 r hs2 =>
        rcases List.mem_cons.mp hx with he | hx
        · cases he
          exact ⟨i, by simp, by omega⟩
        · exact old o x (by rw [hs2]; exact List.mem_cons_of_mem _ hx)
      · cases hx
    · split at hx
      next h24 =>
        rcases List.mem_cons.mp hx with he | hx
        · cases he
          exact ⟨i, by simp, by omega⟩
        · exact old o x hx
      · exact old o x hx
section INSY
variable {t : Nat → UInt8} {n e d p q op : Nat} {C : List In} {σ : fkS}
theorem open_top {s : List (Nat × Nat)} {o x : Nat} {r : List (Nat × Nat)} (hs : s = (o, x) :: r) (h : rOpen s σ) : σ.1 48 1 = nI (r.length + 1) ∧ σ.1 49 r.length = nI x := by
  subst hs
  refine ⟨h.1, h.2 r.length (o, x) ?_⟩
  rw [List.reverse_cons, List.getElem?_append_right (by simp), List.length_reverse, Nat.sub_self]
  rfl
theorem c_close (h : RX t n e q σ) (hf : σ.1 46 3 = 0) (hD : DC C σ) (hO : okO C) (hC : C.length + 8 ≤ p) (hp : p < q) (h20 : (sk C C.length).length ≤ 20) : Di (d + 1) 32 [.ref 48, .ref 36] σ (fun r σ' => r = b2i (sk C C.length).isEmpty ∧ Fr sDC σ σ' ∧ DC (C ++ [mkI p 11 (0, 0, [])]) σ' ∧ RX t n e q σ' ∧ σ'.1 46 3 = 0) := by
  have h7 := h.2.2.2.2.2.2
  refine S_CodeReader_close (kAdd (op := 11) h hf hD (by omega) rfl fun σ1 e1 hR1 hf1 hA => ?_)
  simp only [sW_eq e1]
  obtain ⟨a0, a1, a2, a3, a4, a5, a6, a7, a8, a9⟩ := hA
  have hop : rOpen (sk C C.length) σ := hD.2.2.2.2.2
  cases hs : sk C C.length with
  | nil =>
    have h0 : σ1.1 48 1 = 0 := by rw [a8, hop.1, hs]; rfl
    refine ⟨fun z => absurd h0 z, fun _ => ⟨e1, rfl, a0, ?_, hR1, hf1⟩⟩
    refine hD.snoc (i := mkI p 11 (0, 0, [])) a1 a2 a3 a4 (fun k hk _ => by rw [a5, if_neg (by omega)]) (fun _ => by rw [a5, if_pos rfl]; rfl) (fun o x r _ h2 => by rw [hs] at h2; cases h2) a6 a7 (fun k j _ _ o x r h2 => by rw [hs] at h2; cases h2) ?_
    rw [hs]
    exact ⟨h0, fun k a hk => by rw [show skS [] C.length (iOp (mkI p 11 (0, 0, []))) = [] from rfl] at hk; cases hk⟩
  | cons a r =>
    obtain ⟨o, x⟩ := a
    obtain ⟨b1, b2⟩ := open_top hs hop
    rw [hs] at h20
    have hr : r.length < 20 := by simp at h20; omega
    have hd : σ1.1 48 1 = nI (r.length + 1) := a8.trans b1
    have h49 : σ1.1 49 r.length = nI x := (a9 _).trans b2
    obtain ⟨j, hj1, hj2⟩ := hO o x (by rw [hs]; exact List.mem_cons_self)
    have hx : x < C.length := (List.getElem?_eq_some_iff.mp hj1).1
    refine ⟨fun _ => ?_, fun z => absurd z (by rw [hd]; exact nI_ne0 (by omega) (by omega))⟩
    have e2 : σ1.1 48 1 - (1 : Int32) = nI r.length := by rw [hd]; exact nI_pred _
    rw [e2, nI_clamp (by omega), h49, nI_clamp (by omega)]
    refine ⟨vp_in_nI hr (by decide), vp_in_nI (by omega) (by decide), e1, ?_, (a0.sI rfl).sI rfl, ?_, (hR1.sI rfl).sI rfl, f0_sI (f0_sI hf1 rfl) rfl⟩
    · rfl
    · refine hD.snoc (i := mkI p 11 (0, 0, [])) ?_ ?_ (fun k => a3 k) (fun k => a4 k) (fun k hk hne => ?_) (fun _ => ?_) (fun o2 x2 r2 _ h2 => ?_) (fun j hj => a6 j hj) (fun j B hB => a7 j B hB) (fun k j2 hk2 _ o2 x2 r2 h2 hkx => ?_) ?_
      · rw [sI_o (by decide), sI_o (by decide)]
        exact a1
      · rw [sI_o (by decide), sI_o (by decide)]
        exact a2
      · rw [sI3, sI_o (by decide), if_neg (hne o x r (Or.inr rfl) hs), a5, if_neg (by omega)]
      · rw [sI3, sI_o (by decide), if_neg (by omega), a5, if_pos rfl]
        rfl
      · rw [hs] at h2
        cases h2
        exact sI_ss
      · rw [hs] at h2
        cases h2
        subst hkx
        rw [hj1] at hk2
        cases hk2
        exact hj2
      · rw [hs]
        show rOpen r _
        refine ⟨?_, fun k a hk => ?_⟩
        · rw [sI_o (by decide), sI_ss]
        · rw [sI_o (by decide), sI_o (by decide), a9]
          refine hop.2 k a ?_
          rw [hs, List.reverse_cons, List.getElem?_append_left (by
            have := (List.getElem?_eq_some_iff.mp hk).1
            exact this)]
          exact hk
theorem c_otherPart (h : RX t n e q σ) (hf : σ.1 46 3 = 0) (hD : DC C σ) (hO : okO C) (hC : C.length + 8 ≤ p) (hp : p < q) (h20 : (sk C C.length).length ≤ 20) : Dv (d + 1) 34 [.ref 48, .ref 46, .ref 36, .int (nI p)] σ (fun σ' => YR t n e sDC (fun i σ' => DC (C ++ [i]) σ') (pI2 t e C p 5 q) σ σ') := by
  have h7 := h.2.2.2.2.2.2
  have hop : rOpen (sk C C.length) σ := hD.2.2.2.2.2
  have bad : pI2 t e C p 5 q = .inr (-1, nI p) → Dv d 22 [.ref 46, .int (-1 : Int32), .int (nI p)] σ (fun σ4 => (sW σ4 σ).2.2 = σ.2.2 ∧ YR t n e sDC (fun i σ' => DC (C ++ [i]) σ') (pI2 t e C p 5 q) σ (sW σ4 σ)) := by
    intro hb
    refine kFail h hf (by decide) fun σ3 e3 hZ f3 => ?_
    simp only [sW_eq e3]
    refine ⟨e3, f3.f46C, ?_⟩
    rw [hb]
    exact hZ
  cases hs : sk C C.length with
  | nil =>
    have h0 : σ.1 48 1 = 0 := by rw [hop.1, hs]; rfl
    refine S_CodeReader_otherPart ⟨fun _ => bad ?_, fun z => absurd h0 z⟩
    unfold pI2
    rw [if_neg (by decide), if_pos rfl, hs]
  | cons a r =>
    obtain ⟨o, x⟩ := a
    obtain ⟨b1, b2⟩ := open_top hs hop
    rw [hs] at h20
    have hr : r.length < 20 := by simp at h20; omega
    obtain ⟨j, hj1, hj2⟩ := hO o x (by rw [hs]; exact List.mem_cons_self)
    have hx : x < C.length := (List.getElem?_eq_some_iff.mp hj1).1
    have e2 : σ.1 48 1 - (1 : Int32) = nI r.length := by rw [b1]; exact nI_pred _
    have h41 : σ.1 41 x = nI (iOp j) := (hD.2.2.1 x j hj1).1
    have hp5 : pI2 t e C p 5 q = if iOp j = 4 then .inl (mkI p 5 (0, 0, []), q) else .inr (-1, nI p) := by
      unfold pI2
      rw [if_neg (by decide), if_pos rfl, hs]
      simp [hj1]
    refine S_CodeReader_otherPart ⟨fun z => absurd z (by rw [b1]; exact nI_ne0 (by omega) (by omega)), fun _ => ?_⟩
    rw [e2, nI_clamp (by omega), b2, nI_clamp (by omega), h41]
    refine ⟨vp_in_nI hr (by decide), vp_in_nI (by omega) (by decide), fun z => ?_, fun z => ?_⟩
    · have h4 : iOp j = 4 := (nI_eq (b := 4) (by omega) (by decide)).mp z
      rw [if_pos h4] at hp5
      refine kAdd (op := 5) h hf hD (by omega) rfl fun σ1 e1 hR1 hf1 hA => ?_
      simp only [sW_eq e1]
      obtain ⟨a0, a1, a2, a3, a4, a5, a6, a7, a8, a9⟩ := hA
      have hd : σ1.1 48 1 = nI (r.length + 1) := a8.trans b1
      have h49 : σ1.1 49 r.length = nI x := (a9 _).trans b2
      have e3 : σ1.1 48 1 - (1 : Int32) = nI r.length := by rw [hd]; exact nI_pred _
      rw [e3, nI_clamp (by omega), h49, nI_clamp (by omega)]
      refine ⟨vp_in_nI hr (by decide), vp_in_nI (by omega) (by decide), vp_in_nI hr (by decide), e1, (a0.sI rfl).sI rfl, ?_⟩
      rw [hp5]
      refine ⟨?_, (hR1.sI rfl).sI rfl, f0_sI (f0_sI hf1 rfl) rfl⟩
      refine hD.snoc (i := mkI p 5 (0, 0, [])) ?_ ?_ (fun k => a3 k) (fun k => a4 k) (fun k hk hne => ?_) (fun hn => absurd (show 2 ≤ 5 ∧ 5 ≤ 5 by decide) hn) (fun o2 x2 r2 _ h2 => ?_) (fun j hj => a6 j hj) (fun j B hB => a7 j B hB) (fun k j2 hk2 _ o2 x2 r2 h2 hkx => ?_) ?_
      · rw [sI_o (by decide), sI_o (by decide)]
        exact a1
      · rw [sI_o (by decide), sI_o (by decide)]
        exact a2
      · rw [sI_o (by decide), sI3, if_neg (hne o x r (Or.inl rfl) hs), a5, if_neg (by omega)]
      · rw [hs] at h2
        cases h2
        rw [sI_o (by decide), sI_ss]
      · rw [hs] at h2
        cases h2
        subst hkx
        rw [hj1] at hk2
        cases hk2
        exact hj2
      · rw [hs]
        show rOpen ((o, C.length) :: r) _
        refine ⟨?_, fun k a hk => ?_⟩
        · rw [sI_o (by decide), sI_o (by decide)]
          exact hd
        · rw [sI3]
          rw [List.reverse_cons] at hk
          rcases get_snoc hk with ⟨hk, hlt⟩ | ⟨rfl, rfl⟩
          · have hk2 : k < r.length := by rw [List.length_reverse] at hlt; exact hlt
            rw [if_neg (by omega), sI_o (by decide), a9]
            refine hop.2 k a ?_
            rw [hs, List.reverse_cons, List.getElem?_append_left hlt]
            exact hk
          · rw [if_pos (by simp)]
    · have h4 : ¬ iOp j = 4 := fun y => z (by rw [y]; rfl)
      rw [if_neg h4] at hp5
      exact bad hp5
end INSY
