/-! THE CLASS reads an E: what is made of parts in ( , ), let, if, match -/
section XP
variable {t : Nat → UInt8} {n d : Nat} {σ0 σ : fkS} {s : PS} {C : List cdE} {o : Int32} {E : PS → PS × Tr}
theorem Go.len {T : Tr} {B C : List cdE} (h : Go t T s B C) (hw : s.2.1 = none) (hr : B.length + ln T ≤ 3000) : C.length = B.length + ln T := by
  rw [h.2 hw hr, List.length_append, cr_len]
theorem x_want {ty : Int32} (hX : XE t n σ0 d 188 [.ref 88, .int o] E) (h : PC t n σ0 s C σ) : Dv (d + 1) 192 [.ref 88, .int ty, .int o] σ (fun σ' => ∃ C', Go t (E s).2 (E s).1 C C' ∧ PC t n σ0 (E s).1 (cdA C' (14, ty.toInt64, nI (aA t n s.1), 0)) σ') := by
  refine S_Parser_wanted h.r0 (yV rfl (hX s C σ h) fun σ1 ⟨C1, h1, g1⟩ w1 => ⟨by decide, ?_⟩)
  rw [w1, h.at]
  refine yI (h.re h1) (x_add h1) fun x σ2 ⟨_, h2⟩ w2 => ?_
  show (sW σ2 σ).2.2 = σ.2.2 ∧ _
  rw [w2]
  exact ⟨h.re h2, C1, g1, h2⟩
theorem x_let (hw : ∀ s, (E s).1.2.1 = none → s.2.1 = none) (hX : XE t n σ0 (d + 1) 188 [.ref 88, .int (o + 1)] E) (h : PC t n σ0 s C σ) (h0 : s.2.1 = none) : Dv (d + 2) 189 [.ref 88, .int o] σ (fun σ' => ∃ C', PC t n σ0 (pLe t n E s).1 C' σ' ∧ Go t (pLe t n E s).2 (pLe t n E s).1 C C') := by
  unfold pLe
  simp only
  refine S_Parser_letIn (d := d + 1) h.r0 (yV rfl (x_step h h0) fun σ1 h1 w1 => ?_)
  rw [w1]
  have hv : kA t n (s.1 + 1) = 1 → σ1.2.1 88 11 = wv t (aA t n (s.1 + 1)) (zA t n (s.1 + 1)) := h1.nm
  generalize σ1.2.1 88 11 = v at hv
  refine yV (h.re h1) (x_exp h1) fun σ2 h2 w2 => ?_
  rw [w2]
  refine yV (h.re h2) (x_exp h2) fun σ3 h3 w3 => ?_
  rw [w3]
  refine yV (h.re h3) (hX _ _ _ h3) fun σ4 ⟨C1, h4, g1⟩ w4 => ?_
  rw [w4]
  refine yV (h.re h4) (x_exp h4) fun σ5 h5 w5 => ⟨by decide, ?_⟩
  rw [w5]
  refine yI (h.re h5) (x_add h5) fun _ σ6 ⟨_, h6⟩ w6 => ?_
  rw [w6]
  refine yV (h.re h6) (hX _ _ _ h6) fun σ7 ⟨C3, h7, g2⟩ w7 => ⟨by decide, ?_⟩
  rw [w7]
  refine yI (h.re h7) (x_add h7) fun _ σ8 ⟨_, h8⟩ w8 => ?_
  show (sW σ8 σ).2.2 = σ.2.2 ∧ _
  rw [w8]
  refine ⟨h.re h8, _, h8, ?_, fun z hr => ?_⟩
  · have := (cdA_len (C := C1) (e := (12, v, 0, 1))).1
    have := (cdA_len (C := C3) (e := (13, 1, 0, 0))).1
    have := g1.1
    have := g2.1
    omega
  · rw [ln_8] at hr
    obtain ⟨z1, -, -⟩ := eK_inv (hw _ z)
    obtain ⟨z2, -, -⟩ := eK_inv (hw _ z1)
    obtain ⟨z3, k3, -⟩ := eK_inv z2
    have e1 := g1.2 z1 (by omega)
    have l1 := g1.len z1 (by omega)
    rw [cdA_go (by omega)] at g2
    have l2 : (C1 ++ [((12 : Int32), v, (0 : Int32), (1 : Int32))]).length = C.length + ln (E (eK t n 61 (eK t n 1 (nxt s)))).2 + 1 := by rw [List.length_append, l1]; rfl
    have e2 := g2.2 z (by omega)
    have l3 := g2.len z (by omega)
    rw [l2] at e2
    rw [cdA_go (by omega), e2, e1, cr_8, hv k3]
    simp only [List.append_assoc, List.cons_append, List.nil_append]
theorem x_if (hw : ∀ s, (E s).1.2.1 = none → s.2.1 = none) (hX : XE t n σ0 d 188 [.ref 88, .int (o + 1)] E) (hX2 : XE t n σ0 (d + 1) 188 [.ref 88, .int (o + 1)] E) (h : PC t n σ0 s C σ) (h0 : s.2.1 = none) : Dv (d + 2) 191 [.ref 88, .int o] σ (fun σ' => ∃ C', PC t n σ0 (pIf t n E s).1 C' σ' ∧ Go t (pIf t n E s).2 (pIf t n E s).1 C C') := by
  unfold pIf
  simp only
  refine S_Parser_ifElse (d := d + 1) h.r0 (yV rfl (x_step h h0) fun σ1 h1 w1 => ?_)
  rw [w1]
  refine yV (h.re h1) (x_want hX h1) fun σ2 ⟨C1, g1, h2⟩ w2 => ?_
  rw [w2]
  generalize eC2 : cdA C1 (14, (1 : Int32).toInt64, nI (aA t n (nxt s).1), 0) = C2 at h2
  refine yV (h.re h2) (x_exp h2) fun σ3 h3 w3 => ⟨by decide, ?_⟩
  rw [w3]
  refine yI (h.re h3) (x_add h3) fun x5 σ4 ⟨hx5, h4⟩ w4 => ?_
  rw [w4, hx5]
  refine yV (h.re h4) (hX2 _ _ _ h4) fun σ5 ⟨C4, h5, g2⟩ w5 => ?_
  rw [w5]
  refine yV (h.re h5) (x_exp h5) fun σ6 h6 w6 => ⟨by decide, ?_⟩
  rw [w6]
  refine yI (h.re h6) (x_add h6) fun x9 σ7 ⟨hx9, h7⟩ w7 => ⟨by decide, ?_⟩
  rw [w7, hx9]
  have j1 := (cdA_len (C := C2) (e := (8, 0, 0, 0))).2.2
  have j2 := (cdA_len (C := C4) (e := (9, 0, 0, 0)))
  have q2 := g2.1
  refine yV (h.re h7) (x_land h7 (j := min C2.length 2999) (by omega)) fun σ8 h8 w8 => ?_
  rw [w8, h8.at]
  refine yV (h.re h8) (hX2 _ _ _ h8) fun σ9 ⟨C7, h9, g3⟩ w9 => ⟨by decide, ?_⟩
  rw [w9]
  have q3 := g3.1
  rw [cdL_len] at q3
  refine yI (h.re h9) (x_add h9) fun _ σ10 ⟨_, h10⟩ w10 => ⟨by decide, ?_⟩
  rw [w10]
  have j3 := (cdA_len (C := C7) (e := (16, 0, nI (aA t n (eK t n 9 (E (eK t n 8 (E (nxt s)).1)).1).1), 0)))
  refine yV (h.re h10) (x_land h10 (j := min C4.length 2999) (by omega)) fun σ11 h11 w11 => ?_
  show (sW σ11 σ).2.2 = σ.2.2 ∧ _
  rw [w11]
  refine ⟨h.re h11, _, h11, ?_, fun z hr => ?_⟩
  · rw [cdL_len]
    have := (cdA_len (C := C1) (e := (14, (1 : Int32).toInt64, nI (aA t n (nxt s).1), 0))).1
    rw [eC2] at this
    have := (cdA_len (C := C2) (e := (8, 0, 0, 0))).1
    have := g1.1
    omega
  · rw [ln_9, ln_20] at hr
    obtain ⟨z1, -, -⟩ := eK_inv (hw _ z)
    obtain ⟨z2, -, -⟩ := eK_inv (hw _ z1)
    have e1 := g1.2 z2 (by omega)
    have l1 := g1.len z2 (by omega)
    generalize E (nxt s) = r1 at *
    generalize E (eK t n 8 r1.1) = r2 at *
    generalize aA t n (eK t n 9 r2.1).1 = w3 at *
    generalize E (eK t n 9 r2.1) = r3 at *
    rw [cdA_go (by omega)] at eC2
    have l2 : C2.length = C.length + ln r1.2 + 1 := by rw [← eC2, List.length_append, l1]; rfl
    rw [cdA_go (by omega)] at g2
    have l3 : (C2 ++ [((8 : Int32), (0 : Int64), (0 : Int32), (0 : Int32))]).length = C.length + ln r1.2 + 2 := by rw [List.length_append, l2]; rfl
    have e4 := g2.2 z1 (by omega)
    have l4 := g2.len z1 (by omega)
    rw [l3] at e4 l4
    rw [cdA_go (by omega)] at g3
    have m2 : min C2.length 2999 = C2.length := by omega
    have m4 : min C4.length 2999 = C4.length := by omega
    have e5 : C4 ++ [((9 : Int32), (0 : Int64), (0 : Int32), (0 : Int32))] = C2 ++ ((8 : Int32), (0 : Int64), (0 : Int32), (0 : Int32)) :: (cr t r2.2 (C.length + ln r1.2 + 2) ++ [((9 : Int32), (0 : Int64), (0 : Int32), (0 : Int32))]) := by
      rw [e4]
      simp only [List.append_assoc, List.cons_append, List.nil_append]
    rw [m2, e5, cdL_go rfl] at g3
    dsimp only at g3
    have l6 : (C2 ++ ((8 : Int32), lN (C2.length + (cr t r2.2 (C.length + ln r1.2 + 2) ++ [((9 : Int32), (0 : Int64), (0 : Int32), (0 : Int32))]).length + 1), (0 : Int32), (0 : Int32)) :: (cr t r2.2 (C.length + ln r1.2 + 2) ++ [((9 : Int32), (0 : Int64), (0 : Int32), (0 : Int32))])).length = C.length + ln r1.2 + ln r2.2 + 3 := by
      simp only [List.length_append, List.length_cons, List.length_nil, cr_len, l2]
      omega
    have e7 := g3.2 z (by omega)
    have l7 := g3.len z (by omega)
    rw [l6] at e7 l7
    have l5 : C2.length + (cr t r2.2 (C.length + ln r1.2 + 2) ++ [((9 : Int32), (0 : Int64), (0 : Int32), (0 : Int32))]).length + 1 = C.length + ln r1.2 + ln r2.2 + 3 := by
      simp only [List.length_append, List.length_cons, List.length_nil, cr_len, l2]
      omega
    rw [l5] at e7
    have e8 : C7 ++ [((16 : Int32), (0 : Int64), nI w3, (0 : Int32))] = (C2 ++ ((8 : Int32), lN (C.length + ln r1.2 + ln r2.2 + 3), (0 : Int32), (0 : Int32)) :: cr t r2.2 (C.length + ln r1.2 + 2)) ++ ((9 : Int32), (0 : Int64), (0 : Int32), (0 : Int32)) :: (cr t r3.2 (C.length + ln r1.2 + ln r2.2 + 3) ++ [((16 : Int32), (0 : Int64), nI w3, (0 : Int32))]) := by
      rw [e7]
      simp only [List.append_assoc, List.cons_append, List.nil_append]
    rw [m4, cdA_go (by omega), e8, cdL_go (by simp only [List.length_append, List.length_cons, cr_len, l2, l4]; omega), ← eC2, e1, cr_9, cr_20, lnL_nd, show C.length + ln r1.2 + 2 + ln r2.2 + 1 = C.length + ln r1.2 + ln r2.2 + 3 by omega, show C.length + ln r1.2 + 2 + ln r2.2 + ln r3.2 + 2 = C.length + ln r1.2 + ln r2.2 + ln r3.2 + 4 by omega]
    have l9 : (C ++ cr t r1.2 C.length ++ [((14 : Int32), (1 : Int32).toInt64, nI (aA t n (nxt s).1), (0 : Int32))] ++ ((8 : Int32), lN (C.length + ln r1.2 + ln r2.2 + 3), (0 : Int32), (0 : Int32)) :: cr t r2.2 (C.length + ln r1.2 + 2)).length + (cr t r3.2 (C.length + ln r1.2 + ln r2.2 + 3) ++ [((16 : Int32), (0 : Int64), nI w3, (0 : Int32))]).length + 1 = C.length + ln r1.2 + ln r2.2 + ln r3.2 + 4 := by
      simp only [List.length_append, List.length_cons, List.length_nil, cr_len]
      omega
    rw [l9]
    simp only [List.append_assoc, List.cons_append, List.nil_append]
    rfl
end XP
