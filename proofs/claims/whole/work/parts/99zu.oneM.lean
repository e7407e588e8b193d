/-! THE REFERENCE runs: one turn -/
section ON1
variable {σ0 σ : fkS} {A : List Int32} {F : List (Int32 × List Int32)} {s : rwS} {C : List tE} {k d : Nat} {a b rt : Int32} {L : List Int32}
theorem l1e (A : List Int32) (v : Int32) : nI (v :: A).length - 1 = nI A.length := by rw [List.length_cons, nI_pred]
theorem l2e (A : List Int32) (v u : Int32) : nI (v :: u :: A).length - 1 - 1 = nI A.length := by rw [l1e, l1e]
theorem l2d (A : List Int32) (v u : Int32) : nI (v :: u :: A).length - 2 = nI A.length := by
  rw [List.length_cons, List.length_cons, show (2 : Int32) = nI 2 from rfl, nI_sub (by omega)]
  exact congrArg nI (by omega)
theorem b5e {i : Nat} : (500 : Int32) * (nI (F.length + 1) - 1) + nI i = nI (500 * F.length + i) := by rw [nI_pred, show (500 : Int32) = nI 500 from rfl, nI_mul, nI_add]
theorem m1_push (hC : TCd σ0 C) (he : C[k]? = some (0, a, b)) (h : WM σ0 A F s (nI k) σ) (hl : A.length < 12000) : Cv (d + 1) 364 [.ref 103] σ (fun σ' => WM σ0 (a :: A) F s (nI (k + 1)) σ') := by
  obtain ⟨e142, ck, vi, e180, e181, e182⟩ := m_at hC he h
  have e180 : σ.1 180 k = (0 : Int32) := e180
  have e182 : σ.1 182 k = b := e182
  have e181 : σ.1 181 k = a := (e181.resolve_left (show ¬ (0 : Int32) = 7 by decide)).resolve_left (show ¬ (0 : Int32) = 9 by decide)
  have hx := (h.at2 (q := nI (k + 1))).push (v := a) hl
  have e133 := h.1.1
  have cl : (nI A.length).toNatClampNeg = A.length := nI_clamp (by omega)
  refine S_M_one ?_
  rw [e142, ck, e180, e181, e133, cl, (nI_succ k).symm, (nI_succ A.length).symm]
  refine ⟨vi, vi, vi, fun y => absurd y (by decide), fun _ => ?_, fun y => absurd y (by decide), fun y => absurd y (by decide), fun y => absurd y (by decide), fun y => absurd y (by decide), fun y => absurd y (by decide), fun y => absurd y (by decide), fun y => absurd y (by decide), fun y => absurd y (by decide), fun y => absurd y (by decide), fun y => absurd y (by decide), trivial⟩
  exact ⟨vp_in_nI (by omega) (by decide), hx⟩
theorem m1_load {i : Nat} {v : Int32} (hC : TCd σ0 C) (he : C[k]? = some (1, nI i, b)) (h : WM σ0 A ((rt, L) :: F) s (nI k) σ) (hl : A.length < 12000) (hi : L.reverse[i]? = some v) : Cv (d + 1) 364 [.ref 103] σ (fun σ' => WM σ0 (v :: A) ((rt, L) :: F) s (nI (k + 1)) σ') := by
  obtain ⟨e142, ck, vi, e180, e181, e182⟩ := m_at hC he h
  have e180 : σ.1 180 k = (1 : Int32) := e180
  have e182 : σ.1 182 k = b := e182
  have e181 : σ.1 181 k = nI i := (e181.resolve_left (show ¬ (1 : Int32) = 7 by decide)).resolve_left (show ¬ (1 : Int32) = 9 by decide)
  have hx := (h.at2 (q := nI (k + 1))).push (v := v) hl
  have e133 := h.1.1
  have e136 : σ.1 103 136 = nI (F.length + 1) := h.2.1.1
  have l6 : F.length + 1 ≤ 60 := h.2.1.2.1
  obtain ⟨es, il, l5⟩ := h.slot hi
  have cl : (nI A.length).toNatClampNeg = A.length := nI_clamp (by omega)
  have cs : (nI (500 * F.length + i)).toNatClampNeg = 500 * F.length + i := nI_clamp (by omega)
  refine S_M_one ?_
  rw [e142, ck, e180, e181, e133, cl, e136, b5e, cs, es, (nI_succ k).symm, (nI_succ A.length).symm]
  refine ⟨vi, vi, vi, fun y => absurd y (by decide), fun y => absurd y (by decide), fun _ => ?_, fun y => absurd y (by decide), fun y => absurd y (by decide), fun y => absurd y (by decide), fun y => absurd y (by decide), fun y => absurd y (by decide), fun y => absurd y (by decide), fun y => absurd y (by decide), fun y => absurd y (by decide), fun y => absurd y (by decide), trivial⟩
  exact ⟨vp_in_nI (by omega) (by decide), vp_in_nI (by omega) (by decide), hx⟩
theorem m1_store {v : Int32} (hC : TCd σ0 C) (he : C[k]? = some (2, nI L.length, b)) (h : WM σ0 (v :: A) ((rt, L) :: F) s (nI k) σ) (hL : L.length < 500) : Cv (d + 1) 364 [.ref 103] σ (fun σ' => WM σ0 A ((rt, v :: L) :: F) s (nI (k + 1)) σ') := by
  obtain ⟨e142, ck, vi, e180, e181, e182⟩ := m_at hC he h
  have e180 : σ.1 180 k = (2 : Int32) := e180
  have e182 : σ.1 182 k = b := e182
  have e181 : σ.1 181 k = nI L.length := (e181.resolve_left (show ¬ (2 : Int32) = 7 by decide)).resolve_left (show ¬ (2 : Int32) = 9 by decide)
  have hx := (WM.pop (M := [v]) (h.at2 (q := nI (k + 1)))).sto (v := v) hL
  have hA : A.length + 1 ≤ 12000 := h.1.2.1
  have e133 := h.1.1
  have et := h.top
  have e136 : σ.1 103 136 = nI (F.length + 1) := h.2.1.1
  have l6 : F.length + 1 ≤ 60 := h.2.1.2.1
  have cl : (nI A.length).toNatClampNeg = A.length := nI_clamp (by omega)
  have cs : (nI (500 * F.length + L.length)).toNatClampNeg = 500 * F.length + L.length := nI_clamp (by omega)
  refine S_M_one ?_
  rw [e142, ck, e180, e181, e133, l1e, cl, e136, b5e, cs, et, (nI_succ k).symm]
  refine ⟨vi, vi, vi, fun y => absurd y (by decide), fun y => absurd y (by decide), fun y => absurd y (by decide), fun _ => ?_, fun y => absurd y (by decide), fun y => absurd y (by decide), fun y => absurd y (by decide), fun y => absurd y (by decide), fun y => absurd y (by decide), fun y => absurd y (by decide), fun y => absurd y (by decide), fun y => absurd y (by decide), trivial⟩
  exact ⟨vp_in_nI (by omega) (by decide), vp_in_nI (by omega) (by decide), hx⟩
theorem m1_neg {v : Int32} (hC : TCd σ0 C) (he : C[k]? = some (3, a, b)) (h : WM σ0 (v :: A) F s (nI k) σ) : Cv (d + 1) 364 [.ref 103] σ (fun σ' => WM σ0 (-v :: A) F s (nI (k + 1)) σ') := by
  obtain ⟨e142, ck, vi, e180, e181, e182⟩ := m_at hC he h
  have e180 : σ.1 180 k = (3 : Int32) := e180
  have e182 : σ.1 182 k = b := e182
  have e181 : σ.1 181 k = a := (e181.resolve_left (show ¬ (3 : Int32) = 7 by decide)).resolve_left (show ¬ (3 : Int32) = 9 by decide)
  have hx := WM.put (M := []) (w := v) (A := A) (x := -v) (h.at2 (q := nI (k + 1)))
  have hA : A.length + 1 ≤ 12000 := h.1.2.1
  have e133 := h.1.1
  have et := h.top
  have cl : (nI A.length).toNatClampNeg = A.length := nI_clamp (by omega)
  refine S_M_one ?_
  rw [e142, ck, e180, e181, e133, l1e, cl, et, (nI_succ k).symm]
  refine ⟨vi, vi, vi, fun y => absurd y (by decide), fun y => absurd y (by decide), fun y => absurd y (by decide), fun y => absurd y (by decide), fun _ => ?_, fun y => absurd y (by decide), fun y => absurd y (by decide), fun y => absurd y (by decide), fun y => absurd y (by decide), fun y => absurd y (by decide), fun y => absurd y (by decide), fun y => absurd y (by decide), trivial⟩
  exact ⟨vp_in_nI (by omega) (by decide), vp_in_nI (by omega) (by decide), hx⟩
theorem m1_if {v : Int32} (hC : TCd σ0 C) (he : C[k]? = some (5, a, b)) (h : WM σ0 (v :: A) F s (nI k) σ) : Cv (d + 1) 364 [.ref 103] σ (fun σ' => WM σ0 A F s (if v = 0 then a else nI (k + 1)) σ') := by
  obtain ⟨e142, ck, vi, e180, e181, e182⟩ := m_at hC he h
  have e180 : σ.1 180 k = (5 : Int32) := e180
  have e182 : σ.1 182 k = b := e182
  have e181 : σ.1 181 k = a := (e181.resolve_left (show ¬ (5 : Int32) = 7 by decide)).resolve_left (show ¬ (5 : Int32) = 9 by decide)
  have hx := WM.pop (M := [v]) (h.at2 (q := nI (k + 1)))
  have hA : A.length + 1 ≤ 12000 := h.1.2.1
  have e133 := h.1.1
  have et := h.top
  have cl : (nI A.length).toNatClampNeg = A.length := nI_clamp (by omega)
  refine S_M_one ?_
  rw [e142, ck, e180, e181, e133, l1e, cl, et, (nI_succ k).symm]
  refine ⟨vi, vi, vi, fun y => absurd y (by decide), fun y => absurd y (by decide), fun y => absurd y (by decide), fun y => absurd y (by decide), fun y => absurd y (by decide), fun y => absurd y (by decide), fun _ => ?_, fun y => absurd y (by decide), fun y => absurd y (by decide), fun y => absurd y (by decide), fun y => absurd y (by decide), fun y => absurd y (by decide), trivial⟩
  refine ⟨vp_in_nI (by omega) (by decide), fun c => ?_, fun c => ?_⟩
  · rw [if_neg c]
    exact hx
  · rw [if_pos c]
    exact hx.at2
theorem m1_go (hC : TCd σ0 C) (he : C[k]? = some (6, a, b)) (h : WM σ0 A F s (nI k) σ) : Cv (d + 1) 364 [.ref 103] σ (fun σ' => WM σ0 A F s a σ') := by
  obtain ⟨e142, ck, vi, e180, e181, e182⟩ := m_at hC he h
  have e180 : σ.1 180 k = (6 : Int32) := e180
  have e182 : σ.1 182 k = b := e182
  have e181 : σ.1 181 k = a := (e181.resolve_left (show ¬ (6 : Int32) = 7 by decide)).resolve_left (show ¬ (6 : Int32) = 9 by decide)
  have hx := (h.at2 (q := nI (k + 1))).at2 (q := a)
  refine S_M_one ?_
  rw [e142, ck, e180, e181, (nI_succ k).symm]
  refine ⟨vi, vi, vi, fun y => absurd y (by decide), fun y => absurd y (by decide), fun y => absurd y (by decide), fun y => absurd y (by decide), fun y => absurd y (by decide), fun y => absurd y (by decide), fun y => absurd y (by decide), fun _ => ?_, fun y => absurd y (by decide), fun y => absurd y (by decide), fun y => absurd y (by decide), fun y => absurd y (by decide), trivial⟩
  exact hx
theorem m1_mno {v : Int32} (hC : TCd σ0 C) (he : C[k]? = some (10, a, b)) (h : WM σ0 (v :: A) F s (nI k) σ) (hv : ¬ 0 ≤ v) : Cv (d + 1) 364 [.ref 103] σ (fun σ' => WM σ0 A F s (nI (k + 1)) σ') := by
  obtain ⟨e142, ck, vi, e180, e181, e182⟩ := m_at hC he h
  have e180 : σ.1 180 k = (10 : Int32) := e180
  have e182 : σ.1 182 k = b := e182
  have e181 : σ.1 181 k = a := (e181.resolve_left (show ¬ (10 : Int32) = 7 by decide)).resolve_left (show ¬ (10 : Int32) = 9 by decide)
  have hx := WM.pop (M := [v]) (h.at2 (q := nI (k + 1)))
  have hA : A.length + 1 ≤ 12000 := h.1.2.1
  have e133 := h.1.1
  have et := h.top
  have cl : (nI A.length).toNatClampNeg = A.length := nI_clamp (by omega)
  refine S_M_one ?_
  rw [e142, ck, e180, e181, e133, l1e, cl, et, (nI_succ k).symm]
  refine ⟨vi, vi, vi, fun y => absurd y (by decide), fun y => absurd y (by decide), fun y => absurd y (by decide), fun y => absurd y (by decide), fun y => absurd y (by decide), fun y => absurd y (by decide), fun y => absurd y (by decide), fun y => absurd y (by decide), fun y => absurd y (by decide), fun y => absurd y (by decide), fun y => absurd y (by decide), fun _ => ?_, trivial⟩
  exact ⟨vp_in_nI (by omega) (by decide), fun c => absurd c hv, fun _ => hx⟩
theorem m1_mpr {i : Nat} {q : Int32 × Int32} (hC : TCd σ0 C) (he : C[k]? = some (10, a, nI L.length)) (h : WM σ0 (nI i :: A) ((rt, L) :: F) s (nI k) σ) (hi : s.1[i]? = some q) (hL : L.length + 2 ≤ 500) : Cv (d + 1) 364 [.ref 103] σ (fun σ' => WM σ0 A ((rt, (q.2 - 1) :: q.1 :: L) :: F) s a σ') := by
  obtain ⟨e142, ck, vi, e180, e181, e182⟩ := m_at hC he h
  have e180 : σ.1 180 k = (10 : Int32) := e180
  have e182 : σ.1 182 k = nI L.length := e182
  have e181 : σ.1 181 k = a := (e181.resolve_left (show ¬ (10 : Int32) = 7 by decide)).resolve_left (show ¬ (10 : Int32) = 9 by decide)
  have hx := (((WM.pop (M := [nI i]) (h.at2 (q := nI (k + 1)))).sto (v := q.1) (by omega)).sto (v := q.2 - 1) (by rw [List.length_cons]; omega)).at2 (q := a)
  rw [List.length_cons, ← Nat.add_assoc] at hx
  have hA : A.length + 1 ≤ 12000 := h.1.2.1
  have e133 := h.1.1
  have et := h.top
  have e136 : σ.1 103 136 = nI (F.length + 1) := h.2.1.1
  have l6 : F.length + 1 ≤ 60 := h.2.1.2.1
  have il := (List.getElem?_eq_some_iff.mp hi).1
  have p5 := h.2.2.1.2.1
  obtain ⟨g1, g2⟩ := h.2.2.1.2.2.1 i q hi
  have cl : (nI A.length).toNatClampNeg = A.length := nI_clamp (by omega)
  have ci : (nI i).toNatClampNeg = i := nI_clamp (by omega)
  have cs : (nI (500 * F.length + L.length)).toNatClampNeg = 500 * F.length + L.length := nI_clamp (by omega)
  have ct : (nI (500 * F.length + L.length + 1)).toNatClampNeg = 500 * F.length + L.length + 1 := nI_clamp (by omega)
  refine S_M_one ?_
  rw [e142, ck, e180, e181, e182, e133, l1e, cl, et, ci, g1, g2, e136, b5e, cs, (nI_succ (500 * F.length + L.length)).symm, ct, (nI_succ k).symm]
  refine ⟨vi, vi, vi, fun y => absurd y (by decide), fun y => absurd y (by decide), fun y => absurd y (by decide), fun y => absurd y (by decide), fun y => absurd y (by decide), fun y => absurd y (by decide), fun y => absurd y (by decide), fun y => absurd y (by decide), fun y => absurd y (by decide), fun y => absurd y (by decide), fun y => absurd y (by decide), fun _ => ?_, trivial⟩
  exact ⟨vp_in_nI (by omega) (by decide), fun _ => ⟨vp_in_nI (by omega) (by decide), vp_in_nI (by omega) (by decide), vp_in_nI (by omega) (by decide), vp_in_nI (by omega) (by decide), hx⟩, fun c => absurd (nI_pos' (by omega)) c⟩
theorem m1_call {P : fkS → Prop} (hC : TCd σ0 C) (he : C[k]? = some (8, a, b)) (h : WM σ0 A F s (nI k) σ) (go : ∀ σ1, WM σ0 A F s (nI (k + 1)) σ1 → Cv d 363 [.ref 103, .int a] σ1 P) : Cv (d + 1) 364 [.ref 103] σ (fun σ' => P σ') := by
  obtain ⟨e142, ck, vi, e180, e181, e182⟩ := m_at hC he h
  have e180 : σ.1 180 k = (8 : Int32) := e180
  have e182 : σ.1 182 k = b := e182
  have e181 : σ.1 181 k = a := (e181.resolve_left (show ¬ (8 : Int32) = 7 by decide)).resolve_left (show ¬ (8 : Int32) = 9 by decide)
  have hx := go _ (h.at2 (q := nI (k + 1)))
  refine S_M_one ?_
  rw [e142, ck, e180, e181, (nI_succ k).symm]
  refine ⟨vi, vi, vi, fun y => absurd y (by decide), fun y => absurd y (by decide), fun y => absurd y (by decide), fun y => absurd y (by decide), fun y => absurd y (by decide), fun y => absurd y (by decide), fun y => absurd y (by decide), fun y => absurd y (by decide), fun y => absurd y (by decide), fun _ => ?_, fun y => absurd y (by decide), fun y => absurd y (by decide), trivial⟩
  exact hx
theorem m1_do {P : fkS → Prop} {u w : Int32} (hC : TCd σ0 C) (he : C[k]? = some (9, a, b)) (h : WM σ0 (u :: w :: A) F s (nI k) σ) (go : ∀ σ1, WM σ0 (u :: A) F s (nI (k + 1)) σ1 → Cv d 363 [.ref 103, .int w] σ1 P) : Cv (d + 1) 364 [.ref 103] σ (fun σ' => P σ') := by
  obtain ⟨e142, ck, vi, e180, e181, e182⟩ := m_at hC he h
  have e180 : σ.1 180 k = (9 : Int32) := e180
  have e182 : σ.1 182 k = b := e182
  have hx := go _ (WM.pop (M := [u]) (A := u :: A) (WM.put (M := [u]) (w := w) (A := A) (x := u) (h.at2 (q := nI (k + 1)))))
  have hA : A.length + 2 ≤ 12000 := h.1.2.1
  have e133 := h.1.1
  have et := h.top
  have et2 := h.top2
  have cl : (nI A.length).toNatClampNeg = A.length := nI_clamp (by omega)
  have c1 : (nI (w :: A).length).toNatClampNeg = (w :: A).length := nI_clamp (by rw [List.length_cons]; omega)
  refine S_M_one ?_
  rw [e142, ck, e180, e133, l2d, l1e, cl, c1, et, et2, (nI_succ k).symm]
  refine ⟨vi, vi, vi, fun y => absurd y (by decide), fun y => absurd y (by decide), fun y => absurd y (by decide), fun y => absurd y (by decide), fun y => absurd y (by decide), fun y => absurd y (by decide), fun y => absurd y (by decide), fun y => absurd y (by decide), fun y => absurd y (by decide), fun y => absurd y (by decide), fun _ => ?_, fun y => absurd y (by decide), trivial⟩
  exact ⟨vp_in_nI (by omega) (by decide), vp_in_nI (by rw [List.length_cons]; omega) (by decide), vp_in_nI (by omega) (by decide), hx⟩
theorem m1_pair {P : fkS → Prop} (hC : TCd σ0 C) (he : C[k]? = some (7, a, b)) (h : WM σ0 A F s (nI k) σ) (go : ∀ σ1, WM σ0 A F s (nI (k + 1)) σ1 → Cv d 366 [.ref 103] σ1 P) : Cv (d + 1) 364 [.ref 103] σ (fun σ' => P σ') := by
  obtain ⟨e142, ck, vi, e180, e181, e182⟩ := m_at hC he h
  have e180 : σ.1 180 k = (7 : Int32) := e180
  have e182 : σ.1 182 k = b := e182
  have hx := go _ (h.at2 (q := nI (k + 1)))
  refine S_M_one ?_
  rw [e142, ck, e180, (nI_succ k).symm]
  refine ⟨vi, vi, vi, fun y => absurd y (by decide), fun y => absurd y (by decide), fun y => absurd y (by decide), fun y => absurd y (by decide), fun y => absurd y (by decide), fun y => absurd y (by decide), fun y => absurd y (by decide), fun y => absurd y (by decide), fun _ => ?_, fun y => absurd y (by decide), fun y => absurd y (by decide), fun y => absurd y (by decide), trivial⟩
  exact hx
theorem m1_give (hC : TCd σ0 C) (he : C[k]? = some (11, a, b)) (h : WM σ0 A ((rt, L) :: F) s (nI k) σ) : Cv (d + 1) 364 [.ref 103] σ (fun σ' => WM σ0 A F s rt σ') := by
  obtain ⟨e142, ck, vi, e180, e181, e182⟩ := m_at hC he h
  have e180 : σ.1 180 k = (11 : Int32) := e180
  have e182 : σ.1 182 k = b := e182
  have e136 : σ.1 103 136 = nI (F.length + 1) := h.2.1.1
  have l6 : F.length + 1 ≤ 60 := h.2.1.2.1
  obtain ⟨g1, -, -⟩ := h.2.1.2.2 F.length (rt, L) (rev_at _ F)
  have cl : (nI F.length).toNatClampNeg = F.length := nI_clamp (by omega)
  have hx : WM σ0 A F s rt (sI (sI (sI σ 103 142 (nI (k + 1))) 103 136 (nI F.length)) 103 142 rt) := by
    obtain ⟨h1, ⟨c1, c2, c3⟩, h3, h4, h5, h6, h7⟩ := h
    have f0 : Fr (fun c j => Nat.beq c 103 && (Nat.beq j 142 || Nat.beq j 136)) σ (sI (sI (sI σ 103 142 (nI (k + 1))) 103 136 (nI F.length)) 103 142 rt) := ((Fr.rf.sI rfl).sI rfl).sI rfl
    refine ⟨h1.fr f0 rfl (fun _ => rfl), ⟨(sI_so (by decide)).trans sI_ss, by omega, fun i q hq => ?_⟩, h3.fr f0 rfl rfl rfl (fun _ => rfl) (fun _ => rfl), sI_ss, (f0 103 138 rfl).1.trans h5, h6, h7.tr (((Fr.rf.sI rfl).sI rfl).sI rfl)⟩
    obtain ⟨a1, a2, a3⟩ := c3 i q (rev_in (M := [(rt, L)]) hq)
    exact ⟨(f0 188 i rfl).1.trans a1, a2, fun j v hv => (f0 187 _ rfl).1.trans (a3 j v hv)⟩
  refine S_M_one ?_
  rw [e142, ck, e180, e136, nI_pred, cl, g1, (nI_succ k).symm]
  refine ⟨vi, vi, vi, fun _ => ?_, fun y => absurd y (by decide), fun y => absurd y (by decide), fun y => absurd y (by decide), fun y => absurd y (by decide), fun y => absurd y (by decide), fun y => absurd y (by decide), fun y => absurd y (by decide), fun y => absurd y (by decide), fun y => absurd y (by decide), fun y => absurd y (by decide), fun y => absurd y (by decide), trivial⟩
  exact ⟨vp_in_nI (by omega) (by decide), hx⟩
/-- two with a sign between -/
theorem m1_sgn {z : Nat} {x y : Int32} (hz : z ∈ [42, 43, 45, 47, 37, 60, 128]) : Ci d 365 [.ref 103, .int (nI (sM z)), .int x, .int y] σ (fun r σ' => (rO2 z x y = .ok [r] ∧ σ' = σ) ∨ (rO2 z x y = .error 1 ∧ σ' = sI σ 103 138 (1 : Int32))) := by
  simp only [List.mem_cons, List.not_mem_nil, or_false] at hz
  refine S_M_signOf ?_
  rcases hz with rfl | rfl | rfl | rfl | rfl | rfl | rfl
  · exact ⟨fun _ => Or.inl ⟨rfl, rfl⟩, fun c => absurd (by decide) c⟩
  · exact ⟨fun c => absurd c (by decide), fun _ => ⟨fun _ => Or.inl ⟨rfl, rfl⟩, fun c => absurd (by decide) c⟩⟩
  · exact ⟨fun c => absurd c (by decide), fun _ => ⟨fun c => absurd c (by decide), fun _ => ⟨fun _ => Or.inl ⟨rfl, rfl⟩, fun c => absurd (by decide) c⟩⟩⟩
  · refine ⟨fun c => absurd c (by decide), fun _ => ⟨fun c => absurd c (by decide), fun _ => ⟨fun c => absurd c (by decide), fun _ => ⟨fun c => absurd c (by decide), fun _ => ⟨fun c => absurd c (by decide), fun _ => ⟨fun y0 => ⟨fun c => absurd (by decide) c, fun _ => ⟨y0, Or.inl ⟨?_, rfl⟩⟩⟩, fun y0 => Or.inr ⟨?_, rfl⟩⟩⟩⟩⟩⟩⟩
    · show (if y = 0 then (Except.error 1 : Except Nat (List Int32)) else .ok [x / y]) = _
      rw [if_neg y0]
    · show (if y = 0 then (Except.error 1 : Except Nat (List Int32)) else .ok [x / y]) = _
      rw [if_pos y0]
  · refine ⟨fun c => absurd c (by decide), fun _ => ⟨fun c => absurd c (by decide), fun _ => ⟨fun c => absurd c (by decide), fun _ => ⟨fun c => absurd c (by decide), fun _ => ⟨fun c => absurd c (by decide), fun _ => ⟨fun y0 => ⟨fun _ => ⟨y0, Or.inl ⟨?_, rfl⟩⟩, fun c => absurd c (by decide)⟩, fun y0 => Or.inr ⟨?_, rfl⟩⟩⟩⟩⟩⟩⟩
    · show (if y = 0 then (Except.error 1 : Except Nat (List Int32)) else .ok [x - x / y * y]) = _
      rw [if_neg y0]
    · show (if y = 0 then (Except.error 1 : Except Nat (List Int32)) else .ok [x - x / y * y]) = _
      rw [if_pos y0]
  · refine ⟨fun c => absurd c (by decide), fun _ => ⟨fun c => absurd c (by decide), fun _ => ⟨fun c => absurd c (by decide), fun _ => ⟨fun _ => ⟨fun c => Or.inl ⟨?_, rfl⟩, fun c => Or.inl ⟨?_, rfl⟩⟩, fun c => absurd (by decide) c⟩⟩⟩⟩
    · show (Except.ok [if x < y then (1 : Int32) else 0] : Except Nat (List Int32)) = _
      rw [if_neg (Int32.not_lt.mpr c)]
    · show (Except.ok [if x < y then (1 : Int32) else 0] : Except Nat (List Int32)) = _
      rw [if_pos (Int32.not_le.mp c)]
  · refine ⟨fun c => absurd c (by decide), fun _ => ⟨fun c => absurd c (by decide), fun _ => ⟨fun c => absurd c (by decide), fun _ => ⟨fun c => absurd c (by decide), fun _ => ⟨fun _ => ⟨fun c => Or.inl ⟨?_, rfl⟩, fun c => Or.inl ⟨?_, rfl⟩⟩, fun c => absurd (by decide) c⟩⟩⟩⟩⟩
    · show (Except.ok [if x = y then (1 : Int32) else 0] : Except Nat (List Int32)) = _
      rw [if_neg c]
    · show (Except.ok [if x = y then (1 : Int32) else 0] : Except Nat (List Int32)) = _
      rw [if_pos c]
/-- two with a sign between: a turn -/
theorem m1_op {z : Nat} {x y : Int32} (hz : z ∈ [42, 43, 45, 47, 37, 60, 128]) (hC : TCd σ0 C) (he : C[k]? = some (4, nI (sM z), b)) (h : WM σ0 (y :: x :: A) F s (nI k) σ) : Cv (d + 1) 364 [.ref 103] σ (fun σ' => (∃ r, rO2 z x y = .ok [r] ∧ WM σ0 (r :: A) F s (nI (k + 1)) σ') ∨ (rO2 z x y = .error 1 ∧ YEr σ0 s 1 σ')) := by
  obtain ⟨e142, ck, vi, e180, e181, e182⟩ := m_at hC he h
  have e180 : σ.1 180 k = (4 : Int32) := e180
  have e181 : σ.1 181 k = nI (sM z) := (e181.resolve_left (show ¬ (4 : Int32) = 7 by decide)).resolve_left (show ¬ (4 : Int32) = 9 by decide)
  have hx := WM.pop (M := [y]) (A := x :: A) (h.at2 (q := nI (k + 1)))
  have hA : A.length + 2 ≤ 12000 := h.1.2.1
  have e133 := h.1.1
  have et := h.top
  have et2 := h.top2
  have cl : (nI A.length).toNatClampNeg = A.length := nI_clamp (by omega)
  have c1 : (nI (x :: A).length).toNatClampNeg = (x :: A).length := nI_clamp (by rw [List.length_cons]; omega)
  refine S_M_one ?_
  rw [e142, ck, e180, e181, e133, l2e, l1e, cl, c1, et, et2, (nI_succ k).symm]
  refine ⟨vi, vi, vi, fun y => absurd y (by decide), fun y => absurd y (by decide), fun y => absurd y (by decide), fun y => absurd y (by decide), fun y => absurd y (by decide), fun _ => ?_, fun y => absurd y (by decide), fun y => absurd y (by decide), fun y => absurd y (by decide), fun y => absurd y (by decide), fun y => absurd y (by decide), fun y => absurd y (by decide), trivial⟩
  refine ⟨vp_in_nI (by omega) (by decide), vp_in_nI (by rw [List.length_cons]; omega) (by decide), ?_⟩
  refine (m1_sgn hz).mono fun v σ1 hy => ?_
  obtain ⟨r, rfl, ⟨e, rfl⟩ | ⟨e, rfl⟩⟩ := Qi_s hy
  · exact ⟨vp_in_nI (by omega) (by decide), Or.inl ⟨r, e, WM.put (M := []) (w := x) (A := A) (x := r) hx⟩⟩
  · refine ⟨vp_in_nI (by omega) (by decide), Or.inr ⟨e, ?_⟩⟩
    have h2 := hx.err (x := 1)
    have f0 : Fr (fun c j => Nat.beq c 186) (sI (sI (sI σ 103 142 (nI (k + 1))) 103 133 (nI (x :: A).length)) 103 138 (1 : Int32)) (sI (sI (sI (sI σ 103 142 (nI (k + 1))) 103 133 (nI (x :: A).length)) 103 138 (1 : Int32)) 186 A.length r) := Fr.rf.sI rfl
    exact ⟨h2.1.fr f0 rfl rfl rfl (fun _ => rfl) (fun _ => rfl), (f0 103 138 rfl).1.trans h2.2.1, h2.2.2.1, h2.2.2.2.tr (Fr.rf.sI rfl)⟩
/-- a pair is made -/
theorem m1_cons {x y : Int32} (h : WM σ0 ((y - 1) :: x :: A) F s (nI k) σ) : Cv d 366 [.ref 103] σ (fun σ' => (s.1.length < 500 ∧ WM σ0 ((nI (s.1.length + 1) - 1) :: A) F (s.1 ++ [(x, y)], s.2) (nI k) σ') ∨ (¬ s.1.length < 500 ∧ YEr σ0 s 2 σ')) := by
  have hA : A.length + 2 ≤ 12000 := h.1.2.1
  have e133 := h.1.1
  have et := h.top
  have et2 := h.top2
  have e134 := h.2.2.1.1
  have l5 := h.2.2.1.2.1
  have cl : (nI A.length).toNatClampNeg = A.length := nI_clamp (by omega)
  have c1 : (nI (x :: A).length).toNatClampNeg = (x :: A).length := nI_clamp (by rw [List.length_cons]; omega)
  have c5 : (nI s.1.length).toNatClampNeg = s.1.length := nI_clamp (by omega)
  refine S_M_pairUp ?_
  rw [e134, e133, l2e, l1e, cl, c1, c5, et, et2, (nI_succ s.1.length).symm]
  refine ⟨fun n5 => ?_, fun y5 => Or.inr ⟨fun c => ?_, h.err (x := 2)⟩⟩
  · have lt : s.1.length < 500 := by
      rcases Nat.lt_or_ge s.1.length 500 with c | c
      · exact c
      · exact absurd (show nI s.1.length = 500 by rw [show s.1.length = 500 by omega]; rfl) n5
    refine ⟨vp_in_nI (by omega) (by decide), vp_in_nI lt (by decide), vp_in_nI (by rw [List.length_cons]; omega) (by decide), vp_in_nI lt (by decide), vp_in_nI (by omega) (by decide), Or.inl ⟨lt, ?_⟩⟩
    rw [nI_pred]
    have hx := WM.put (M := []) (w := x) (A := A) (x := nI s.1.length) (WM.pop (M := [y - 1]) (A := x :: A) h)
    have f0 : Fr (fun c j => Nat.beq c 103 && Nat.beq j 133 || Nat.beq c 189 || Nat.beq c 190 || Nat.beq c 186 || Nat.beq c 103 && Nat.beq j 134) σ (sI (sI (sI (sI (sI σ 103 133 (nI (x :: A).length)) 189 s.1.length x) 190 s.1.length (y - 1)) 186 A.length (nI s.1.length)) 103 134 (nI (s.1.length + 1))) := ((((Fr.rf.sI rfl).sI rfl).sI rfl).sI rfl).sI rfl
    obtain ⟨-, h2, ⟨b1, b2, b3, b4, b5, b6, b7⟩, h4, h5, h6, h7⟩ := h
    obtain ⟨⟨x1, x2, x3⟩, -⟩ := hx
    refine ⟨⟨?_, x2, fun i u hu => ?_⟩, h2.fr f0 rfl (fun _ => rfl) (fun _ => rfl), ⟨?_, ?_, fun i q hq => ?_, (f0 103 135 rfl).1.trans b4, b5, (f0 103 137 rfl).1.trans b6, b7⟩, (f0 103 142 rfl).1.trans h4, (f0 103 138 rfl).1.trans h5, h6, h7.tr (((((Fr.rf.sI rfl).sI rfl).sI rfl).sI rfl).sI rfl)⟩
    · exact (sI_so (by decide)).trans ((congrFun (sI_o (by decide)) _).trans ((congrFun (sI_o (by decide)) _).trans ((congrFun (sI_o (by decide)) _).trans sI_ss)))
    · rcases rev_last hu with ⟨c, hu2⟩ | ⟨c, hu2⟩
      · have := x3 i u hu
        refine (congrFun (sI_o (by decide)) _).trans ((sI_so (by omega)).trans ((congrFun (sI_o (by decide)) _).trans ((congrFun (sI_o (by decide)) _).trans ?_)))
        exact ((sI_so (by omega)).symm.trans this)
      · subst hu2
        subst c
        exact (congrFun (sI_o (by decide)) _).trans sI_ss
    · rw [List.length_append]
      exact sI_ss
    · rw [List.length_append]; exact lt
    · rcases Nat.lt_or_ge i s.1.length with c | c
      · rw [List.getElem?_append_left c] at hq
        obtain ⟨g1, g2⟩ := b3 i q hq
        exact ⟨(congrFun (sI_o (by decide)) _).trans ((congrFun (sI_o (by decide)) _).trans ((congrFun (sI_o (by decide)) _).trans ((sI_so (by omega)).trans ((congrFun (sI_o (by decide)) _).trans g1)))), (congrFun (sI_o (by decide)) _).trans ((congrFun (sI_o (by decide)) _).trans ((sI_so (by omega)).trans ((congrFun (sI_o (by decide)) _).trans ((congrFun (sI_o (by decide)) _).trans g2))))⟩
      · have hi := (List.getElem?_eq_some_iff.mp hq).1
        rw [List.length_append] at hi
        have e2 : [(x, y)].length = 1 := rfl
        rw [e2] at hi
        have hi2 : i = s.1.length := by omega
        subst hi2
        rw [mid_a] at hq
        have := Option.some.inj hq
        subst this
        exact ⟨(congrFun (sI_o (by decide)) _).trans ((congrFun (sI_o (by decide)) _).trans ((congrFun (sI_o (by decide)) _).trans sI_ss)), (congrFun (sI_o (by decide)) _).trans ((congrFun (sI_o (by decide)) _).trans sI_ss)⟩
  · have y5' : nI s.1.length = nI 500 := y5
    have := congrArg Int32.toInt y5'
    rw [nI_toInt (by omega), nI_toInt (by decide)] at this
    omega
end ON1
