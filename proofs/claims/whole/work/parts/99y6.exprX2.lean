/-! THE CLASS reads an E: match, pairs, CALLS -/
section XQ
variable {t : Nat → UInt8} {n d : Nat} {σ0 σ : fkS} {s : PS} {C : List cdE} {o : Int32} {E : PS → PS × Tr}
theorem x_bind {k : Int32} (h : PC t n σ0 s C σ) : Dv (d + 2) 195 [.ref 88, .int k] σ (fun σ' => ∃ v, (kA t n s.1 = 1 → v = wv t (aA t n s.1) (zA t n s.1)) ∧ PC t n σ0 (eK t n 1 s) (cdA C (12, v, 0, k)) σ') := by
  refine S_Parser_bindPart (d := d + 1) h.r0 ⟨by decide, yI rfl (x_add h) fun _ σ1 ⟨_, h1⟩ w1 => ?_⟩
  rw [w1]
  refine yV (h.re h1) (x_exp h1) fun σ2 h2 w2 => ?_
  show (sW σ2 σ).2.2 = σ.2.2 ∧ _
  rw [w2]
  exact ⟨h.re h2, _, h.nm, h2⟩
theorem x_ma (hw : ∀ s, (E s).1.2.1 = none → s.2.1 = none) (hX : XE t n σ0 (d + 1) 188 [.ref 88, .int (o + 1)] E) (hX2 : XE t n σ0 (d + 2) 188 [.ref 88, .int (o + 1)] E) (h : PC t n σ0 s C σ) (h0 : s.2.1 = none) : Dv (d + 3) 194 [.ref 88, .int o] σ (fun σ' => ∃ C', PC t n σ0 (pMa t n E s).1 C' σ' ∧ Go t (pMa t n E s).2 (pMa t n E s).1 C C') := by
  unfold pMa
  simp only
  refine S_Parser_match (d := d + 2) h.r0 (yV rfl (x_step h h0) fun σ1 h1 w1 => ?_)
  rw [w1]
  refine yV (h.re h1) (x_want hX h1) fun σ2 ⟨C1, g1, h2⟩ w2 => ?_
  rw [w2]
  generalize eC2 : cdA C1 (14, (2 : Int32).toInt64, nI (aA t n (nxt s).1), 0) = C2 at h2
  generalize er1 : E (nxt s) = r1 at g1 h2
  refine yV (h.re h2) (x_exp h2) fun σ3 h3 w3 => ?_
  rw [w3]
  refine yV (h.re h3) (x_exp h3) fun σ4 h4 w4 => ?_
  rw [w4]
  refine yV (h.re h4) (x_exp h4) fun σ5 h5 w5 => ⟨by decide, ?_⟩
  rw [w5]
  refine yI (h.re h5) (x_add h5) fun x5 σ6 ⟨hx5, h6⟩ w6 => ?_
  rw [w6, hx5]
  refine yV (h.re h6) (hX2 _ _ _ h6) fun σ7 ⟨C4, h7, g2⟩ w7 => ?_
  rw [w7]
  generalize er2 : E (eK t n 129 (eK t n 12 (eK t n 11 r1.1))) = r2 at h7 g2
  refine yV (h.re h7) (x_exp h7) fun σ8 h8 w8 => ⟨by decide, ?_⟩
  rw [w8]
  generalize es3 : eK t n 124 r2.1 = s3 at h8
  refine yI (h.re h8) (x_add h8) fun x9 σ9 ⟨hx9, h9⟩ w9 => ⟨by decide, ?_⟩
  rw [w9, hx9]
  have j1 := (cdA_len (C := C2) (e := (10, 0, 0, 0)))
  have j2 := (cdA_len (C := C4) (e := (9, 0, 0, 0)))
  have q2 := g2.1
  refine yV (h.re h9) (x_land h9 (j := min C2.length 2999) (by omega)) fun σ10 h10 w10 => ⟨by decide, ?_⟩
  rw [w10]
  generalize eC6 : cdL (cdA C4 (9, 0, 0, 0)) (min C2.length 2999) = C6 at h10
  have l6 : C6.length = (cdA C4 (9, 0, 0, 0)).length := by rw [← eC6, cdL_len]
  refine yI (h.re h10) (x_add h10) fun _ σ11 ⟨_, h11⟩ w11 => ?_
  rw [w11]
  have j3 := (cdA_len (C := C6) (e := (11, 0, 0, 0)))
  generalize eC7 : cdA C6 (11, 0, 0, 0) = C7 at h11 j3
  refine yV (h.re h11) (x_bind h11) fun σ12 ⟨v1, hv1, h12⟩ w12 => ?_
  rw [w12]
  have j4 := (cdA_len (C := C7) (e := (12, v1, 0, 2)))
  generalize eC8 : cdA C7 (12, v1, 0, 2) = C8 at h12 j4
  refine yV (h.re h12) (x_exp h12) fun σ13 h13 w13 => ?_
  rw [w13]
  generalize es4 : eK t n 44 (eK t n 1 s3) = s4 at h13
  refine yV (h.re h13) (x_bind h13) fun σ14 ⟨v2, hv2, h14⟩ w14 => ?_
  rw [w14]
  have j5 := (cdA_len (C := C8) (e := (12, v2, 0, 1)))
  generalize eC9 : cdA C8 (12, v2, 0, 1) = C9 at h14 j5
  refine yV (h.re h14) (x_exp h14) fun σ15 h15 w15 => ?_
  rw [w15, h15.at]
  generalize es5 : eK t n 129 (eK t n 1 s4) = s5 at h15
  refine yV (h.re h15) (hX2 _ _ _ h15) fun σ16 ⟨C10, h16, g3⟩ w16 => ⟨by decide, ?_⟩
  rw [w16]
  have q3 := g3.1
  refine yI (h.re h16) (x_add h16) fun _ σ17 ⟨_, h17⟩ w17 => ⟨by decide, ?_⟩
  rw [w17]
  have j6 := (cdA_len (C := C10) (e := (13, 2, 0, 0)))
  generalize eC11 : cdA C10 (13, 2, 0, 0) = C11 at h17 j6
  refine yI (h.re h17) (x_add h17) fun _ σ18 ⟨_, h18⟩ w18 => ⟨by decide, ?_⟩
  rw [w18]
  have j7 := (cdA_len (C := C11) (e := (16, 0, nI (aA t n s5.1), 0)))
  refine yV (h.re h18) (x_land h18 (j := min C4.length 2999) (by omega)) fun σ19 h19 w19 => ?_
  show (sW σ19 σ).2.2 = σ.2.2 ∧ _
  rw [w19]
  refine ⟨h.re h19, _, h19, ?_, fun z hr => ?_⟩
  · rw [cdL_len]
    have := (cdA_len (C := C1) (e := (14, (2 : Int32).toInt64, nI (aA t n (nxt s).1), 0))).1
    rw [eC2] at this
    have := g1.1
    omega
  · rw [ln_10, ln_22] at hr
    have z5 := hw _ z
    rw [← es5] at z5
    obtain ⟨z5a, -, -⟩ := eK_inv z5
    obtain ⟨z4, k4, -⟩ := eK_inv z5a
    have z4a := z4
    rw [← es4] at z4a
    obtain ⟨z4b, -, -⟩ := eK_inv z4a
    obtain ⟨z3, k3, -⟩ := eK_inv z4b
    have z3a := z3
    rw [← es3] at z3a
    obtain ⟨z2, -, -⟩ := eK_inv z3a
    have z2a := z2
    rw [← er2] at z2a
    obtain ⟨z2b, -, -⟩ := eK_inv (hw _ z2a)
    obtain ⟨z2c, -, -⟩ := eK_inv z2b
    obtain ⟨z1, -, -⟩ := eK_inv z2c
    have e1 := g1.2 z1 (by omega)
    have l1 := g1.len z1 (by omega)
    have v1e := hv1 k3
    have v2e := hv2 k4
    clear hX hX2 hw h1 h2 h3 h4 h5 h6 h7 h8 h9 h10 h11 h12 h13 h14 h15 h16 h17 h18 h19 w1 w2 w3 w4 w5 w6 w7 w8 w9 w10 w11 w12 w13 w14 w15 w16 w17 w18 w19
    generalize E s5 = r3 at *
    rw [cdA_go (by omega)] at eC2
    have l2 : C2.length = C.length + ln r1.2 + 1 := by rw [← eC2, List.length_append, l1]; rfl
    rw [cdA_go (by omega)] at g2
    have l3 : (C2 ++ [((10 : Int32), (0 : Int64), (0 : Int32), (0 : Int32))]).length = C.length + ln r1.2 + 2 := by rw [List.length_append, l2]; rfl
    have e4 := g2.2 z2 (by omega)
    have l4 := g2.len z2 (by omega)
    rw [l3] at e4 l4
    have m2 : min C2.length 2999 = C2.length := by omega
    have m4 : min C4.length 2999 = C4.length := by omega
    have e5 : C4 ++ [((9 : Int32), (0 : Int64), (0 : Int32), (0 : Int32))] = C2 ++ ((10 : Int32), (0 : Int64), (0 : Int32), (0 : Int32)) :: (cr t r2.2 (C.length + ln r1.2 + 2) ++ [((9 : Int32), (0 : Int64), (0 : Int32), (0 : Int32))]) := by
      rw [e4]
      simp only [List.append_assoc, List.cons_append, List.nil_append]
    have l5 : C2.length + (cr t r2.2 (C.length + ln r1.2 + 2) ++ [((9 : Int32), (0 : Int64), (0 : Int32), (0 : Int32))]).length + 1 = C.length + ln r1.2 + ln r2.2 + 3 := by
      simp only [List.length_append, List.length_cons, List.length_nil, cr_len, l2]
      omega
    rw [cdA_go (by omega), m2, e5, cdL_go rfl, l5] at eC6
    dsimp only at eC6
    have l6 : C6.length = C.length + ln r1.2 + ln r2.2 + 3 := by
      rw [← eC6]
      simp only [List.length_append, List.length_cons, List.length_nil, cr_len, l2]
      omega
    rw [cdA_go (by omega)] at eC7
    have l7 : C7.length = C6.length + 1 := by rw [← eC7, List.length_append]; rfl
    rw [cdA_go (by omega)] at eC8
    have l8 : C8.length = C7.length + 1 := by rw [← eC8, List.length_append]; rfl
    rw [cdA_go (by omega)] at eC9
    have l9 : C9.length = C8.length + 1 := by rw [← eC9, List.length_append]; rfl
    have l9' : C9.length = C.length + ln r1.2 + ln r2.2 + 6 := by omega
    have e10 := g3.2 z (by omega)
    have l10 := g3.len z (by omega)
    rw [l9'] at e10 l10
    rw [cdA_go (by omega)] at eC11
    have l11 : C11.length = C10.length + 1 := by rw [← eC11, List.length_append]; rfl
    have e12 : C11 ++ [((16 : Int32), (0 : Int64), nI (aA t n s5.1), (0 : Int32))] = (C2 ++ ((10 : Int32), lN (C.length + ln r1.2 + ln r2.2 + 3), (0 : Int32), (0 : Int32)) :: cr t r2.2 (C.length + ln r1.2 + 2)) ++ ((9 : Int32), (0 : Int64), (0 : Int32), (0 : Int32)) :: ((11 : Int32), (0 : Int64), (0 : Int32), (0 : Int32)) :: ((12 : Int32), v1, (0 : Int32), (2 : Int32)) :: ((12 : Int32), v2, (0 : Int32), (1 : Int32)) :: (cr t r3.2 (C.length + ln r1.2 + ln r2.2 + 6) ++ [((13 : Int32), (2 : Int64), (0 : Int32), (0 : Int32)), ((16 : Int32), (0 : Int64), nI (aA t n s5.1), (0 : Int32))]) := by
      rw [← eC11, e10, ← eC9, ← eC8, ← eC7, ← eC6]
      simp only [List.append_assoc, List.cons_append, List.nil_append]
    have l13 : (C2 ++ ((10 : Int32), lN (C.length + ln r1.2 + ln r2.2 + 3), (0 : Int32), (0 : Int32)) :: cr t r2.2 (C.length + ln r1.2 + 2)).length = C.length + ln r1.2 + ln r2.2 + 2 := by
      simp only [List.length_append, List.length_cons, cr_len, l2]
      omega
    have l14 : (((11 : Int32), (0 : Int64), (0 : Int32), (0 : Int32)) :: ((12 : Int32), v1, (0 : Int32), (2 : Int32)) :: ((12 : Int32), v2, (0 : Int32), (1 : Int32)) :: (cr t r3.2 (C.length + ln r1.2 + ln r2.2 + 6) ++ [((13 : Int32), (2 : Int64), (0 : Int32), (0 : Int32)), ((16 : Int32), (0 : Int64), nI (aA t n s5.1), (0 : Int32))])).length = ln r3.2 + 5 := by
      simp only [List.length_append, List.length_cons, List.length_nil, cr_len]
    rw [m4, cdA_go (by omega), e12, cdL_go (by rw [l13]; omega), l13, l14, ← eC2, e1, cr_10, cr_22, lnL_nd, show C.length + ln r1.2 + 2 + ln r2.2 + 4 = C.length + ln r1.2 + ln r2.2 + 6 by omega, show C.length + ln r1.2 + 2 + ln r2.2 + ln r3.2 + 6 = C.length + ln r1.2 + ln r2.2 + ln r3.2 + 8 by omega, v1e, v2e]
    have l15 : C.length + ln r1.2 + ln r2.2 + 2 + (ln r3.2 + 5) + 1 = C.length + ln r1.2 + ln r2.2 + ln r3.2 + 8 := by omega
    rw [l15]
    simp only [List.append_assoc, List.cons_append, List.nil_append]
    rfl
/-- two E in ( , ) behind cons, do -/
theorem x_pr (hw : ∀ s, (E s).1.2.1 = none → s.2.1 = none) {k : Nat} {op t1 t2 : Int32} (hk : (k = 6 ∧ op = 5 ∧ t1 = 1 ∧ t2 = 2) ∨ (k = 7 ∧ op = 6 ∧ t1 = 3 ∧ t2 = 1)) (hX : XE t n σ0 d 188 [.ref 88, .int (o + 1)] E) (h : PC t n σ0 s C σ) (h0 : s.2.1 = none) : Dv (d + 2) 201 [.ref 88, .int op, .int t1, .int t2, .int o] σ (fun σ' => ∃ C', PC t n σ0 (pPr t n E k s).1 C' σ' ∧ Go t (pPr t n E k s).2 (pPr t n E k s).1 C C') := by
  unfold pPr
  simp only
  refine S_Parser_pair (d := d + 1) h.r0 (yV rfl (x_step h h0) fun σ1 h1 w1 => ?_)
  rw [w1]
  refine yV (h.re h1) (x_exp h1) fun σ2 h2 w2 => ?_
  rw [w2]
  generalize es1 : eK t n 40 (nxt s) = s1 at h2
  refine yV (h.re h2) (x_want hX h2) fun σ3 ⟨C1, g1, h3⟩ w3 => ?_
  rw [w3]
  refine yV (h.re h3) (x_exp h3) fun σ4 h4 w4 => ?_
  rw [w4]
  have j1 := (cdA_len (C := C1) (e := (14, t1.toInt64, nI (aA t n s1.1), 0))).1
  generalize eC2 : cdA C1 (14, t1.toInt64, nI (aA t n s1.1), 0) = C2 at h4 j1
  generalize es2 : eK t n 44 (E s1).1 = s2 at h4
  refine yV (h.re h4) (x_want hX h4) fun σ5 ⟨C3, g2, h5⟩ w5 => ?_
  rw [w5]
  refine yV (h.re h5) (x_exp h5) fun σ6 h6 w6 => ⟨by decide, ?_⟩
  rw [w6]
  have j2 := (cdA_len (C := C3) (e := (14, t2.toInt64, nI (aA t n s2.1), 0))).1
  generalize eC4 : cdA C3 (14, t2.toInt64, nI (aA t n s2.1), 0) = C4 at h6 j2
  refine yI (h.re h6) (x_add h6) fun _ σ7 ⟨_, h7⟩ w7 => ?_
  have j3 := (cdA_len (C := C4) (e := (op, 0, 0, 0))).1
  show (sW σ7 σ).2.2 = σ.2.2 ∧ _
  rw [w7]
  refine ⟨h.re h7, _, h7, ?_, fun z hr => ?_⟩
  · have := g1.1
    have := g2.1
    omega
  · obtain ⟨z2, -, -⟩ := eK_inv z
    have z3 := hw _ z2
    rw [← es2] at z3
    obtain ⟨z1, -, -⟩ := eK_inv z3
    have hr : C.length + (ln (E s1).2 + ln (E s2).2 + 3) ≤ 3000 := by rcases hk with ⟨rfl, -⟩ | ⟨rfl, -⟩ <;> exact hr
    have e1 := g1.2 z1 (by omega)
    have l1 := g1.len z1 (by omega)
    rw [cdA_go (by omega)] at eC2
    have l2 : C2.length = C.length + ln (E s1).2 + 1 := by rw [← eC2, List.length_append, l1]; rfl
    have e3 := g2.2 z2 (by omega)
    have l3 := g2.len z2 (by omega)
    rw [l2] at e3 l3
    rw [cdA_go (by omega)] at eC4
    have l4 : C4.length = C3.length + 1 := by rw [← eC4, List.length_append]; rfl
    rw [cdA_go (by omega), ← eC4, e3, ← eC2, e1]
    rcases hk with ⟨rfl, rfl, rfl, rfl⟩ | ⟨rfl, rfl, rfl, rfl⟩
    · rw [cr_6]
      simp only [List.append_assoc, List.cons_append, List.nil_append]
      rfl
    · rw [cr_7]
      simp only [List.append_assoc, List.cons_append, List.nil_append]
      rfl
/-- the E of a CALL -/
theorem w_call (hw : ∀ s, (E s).1.2.1 = none → s.2.1 = none) {a z : Nat} {v4 : Int32} {Q : Option Value → fkS → Prop} (hX : XE t n σ0 d 188 [.ref 88, .int (o + 1)] E) : ∀ (f k : Nat) (s : PS) (C : List cdE) (σ : fkS), f + k = 401 → PC t n σ0 s C σ → s.2.1 = none →
    (∀ C' σ', PC t n σ0 (pAr t n E a z f k s).1 C' σ' → Go t (pAr t n E a z f k s).2 (pAr t n E a z f k s).1 C C' → Dv d 185 [.ref 88, .int (41 : Int32)] σ' (fun σ1 => ¬ (76 : Nat) = 0 ∧ Di d 190 [.ref 75, .int (2 : Int32), .long (wv t a z), .int v4, .int (nI (k + cnt (pAr t n E a z f k s).2))] (sW σ1 σ') (fun _ σ2 => Q none (sW σ2 σ')))) →
    Wq 200 (d + 1) 48 [some (.ref 88), some (.int o), some (.long (wv t a z)), none, some (.int v4), some (.int (nI k)), some (.int (1 : Int32)), none] [] σ Q := by
  intro f
  induction f with
  | zero =>
    intro k s C σ hk h h0 hQ
    have q := hQ C σ h ⟨Nat.le_refl _, fun _ _ => by show C = C ++ []; rw [List.append_nil]⟩
    refine S_Parser_nameOrCall_48 h.r0 ⟨fun y => absurd y (by decide), fun _ => ⟨fun _ => q, fun y => absurd (nI_lt (a := 400) (b := k) (by omega) (by omega)) y⟩⟩
  | succ f ih =>
    intro k s C σ hk h h0 hQ
    rw [pAr] at hQ
    refine S_Parser_nameOrCall_48 h.r0 ⟨fun y => absurd y (by decide), fun _ => ⟨fun y => absurd y (nI_nlt (a := 400) (b := k) (by omega) (by decide)), fun _ => ?_⟩⟩
    rw [h.at]
    refine yV rfl (hX _ _ _ h) fun σ1 ⟨C1, h1, g1⟩ w1 => ⟨by decide, ?_⟩
    rw [w1]
    refine yI (h.re h1) (x_add h1) fun _ σ2 ⟨_, h2⟩ w2 => ?_
    rw [w2]
    have j1 := (cdA_len (C := C1) (e := (15, wv t a z, nI (aA t n s.1), nI k))).1
    have q1 := g1.1
    generalize eC2 : cdA C1 (15, wv t a z, nI (aA t n s.1), nI k) = C2 at h2 j1
    have ek : nI k + 1 = nI (k + 1) := (nI_succ k).symm
    -- the row so far with what comes behind it
    have ends : ∀ (R : Tr) (s' : PS) (C' : List cdE), (s'.2.1 = none → (E s).1.2.1 = none) → Go t R s' C2 C' → Go t (nd 21 a z (aA t n s.1) k (E s).2 R) s' C C' := by
      intro R s' C' hw2 g
      refine ⟨by have := g.1; omega, fun z2 hr => ?_⟩
      rw [ln_21] at hr
      have z1 := hw2 z2
      have e1 := g1.2 z1 (by omega)
      have l1 := g1.len z1 (by omega)
      rw [cdA_go (by omega)] at eC2
      have l2 : C2.length = C.length + ln (E s).2 + 1 := by rw [← eC2, List.length_append, l1]; rfl
      have e3 := g.2 z2 (by omega)
      rw [l2] at e3
      rw [e3, ← eC2, e1, cr_21]
      simp only [List.append_assoc, List.cons_append, List.nil_append]
    refine yI (h.re h2) (x_fine h2) fun x σ3 ⟨e3, hx⟩ w3 => ?_
    subst e3
    rw [w3]
    have stop : ¬ ((E s).1.2.1 = none ∧ kA t n (E s).1.1 = 44) → Wq 200 (d + 1) 48 [some (.ref 88), some (.int o), some (.long (wv t a z)), none, some (.int v4), some (.int (nI k + 1)), some (.int (0 : Int32)), none] [] σ3 Q := by
      intro c
      rw [if_neg c] at hQ
      have q := hQ C2 σ3 h2 (ends .leaf _ _ (fun z => z) ⟨Nat.le_refl _, fun _ _ => by show C2 = C2 ++ []; rw [List.append_nil]⟩)
      rw [ek]
      exact S_Parser_nameOrCall_48 h2.r0 ⟨fun _ => q, fun y => absurd rfl y⟩
    refine ⟨fun y => ⟨fun _ => stop fun c => ?_, fun y => absurd rfl y⟩, fun y => ⟨fun y2 => ⟨fun _ => stop fun c => ?_, fun y => absurd rfl y⟩, fun y2 => ⟨fun y => absurd y (by decide), fun _ => ?_⟩⟩⟩
    · rw [hx, if_pos c.1] at y; exact absurd y (by decide)
    · rw [h2.kind] at y2; exact y2 c.2
    · have c : (E s).1.2.1 = none ∧ kA t n (E s).1.1 = 44 := by
        refine ⟨Classical.byContradiction fun c => ?_, ?_⟩
        · rw [hx, if_neg c] at y; exact y rfl
        · rw [h2.kind] at y2; exact y2
      rw [if_pos c] at hQ
      refine yV (h.re h2) (x_step h2 c.1) fun σ4 h4 w4 => ?_
      rw [w4, ek]
      refine ih (k + 1) _ C2 σ4 (by omega) h4 rfl fun C' σ' h5 g5 => ?_
      have q := hQ C' σ' h5 (ends _ _ _ (fun _ => c.1) g5)
      have ec : k + cnt (nd 21 a z (aA t n s.1) k (E s).2 (pAr t n E a z f (k + 1) (nxt (E s).1)).2) = k + 1 + cnt (pAr t n E a z f (k + 1) (nxt (E s).1)).2 := by
        show k + (1 + cnt _) = _
        omega
      rw [ec] at q
      exact q
end XQ
