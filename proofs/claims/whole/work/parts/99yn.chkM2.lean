/-! THE REFERENCE judges an E -/
section CN
variable {t : Nat → UInt8} {n mm : Nat} {D : List FD}
theorem k_act {d f : Nat} {σ : fkS} (h : CB t n D mm σ) (hf : f < D.length) : Ci d 359 [.ref 103, .int (nI f)] σ (fun x s => s = σ ∧ x = if acD D f then 1 else 0) := by
  obtain ⟨hP, hM, -, h97, h20, hok⟩ := h
  have hq : D[f]? = some D[f] := List.getElem?_eq_getElem hf
  obtain ⟨-, -, a3, a4, -, a6, a7, -⟩ := hM f _ hq
  have o := hok _ (List.mem_of_getElem? hq)
  have cf : (nI f).toNatClampNeg = f := nI_clamp (by omega)
  have c4 : ((4 : Int32) * nI f).toNatClampNeg = 4 * f := by
    rw [show (4 : Int32) = nI 4 from rfl, nI_mul]
    exact nI_clamp (by omega)
  have v4 : vp_in ((4 : Int32) * nI f) 80 := by
    rw [show (4 : Int32) = nI 4 from rfl, nI_mul]
    exact vp_in_nI (by omega) (by decide)
  have e1 : tkD D f = D[f].2.1.length := by unfold tkD; rw [hq]
  have e3 : gvD D f = D[f].2.2.1 := by unfold gvD; rw [hq]
  refine S_M_isAct ?_
  rw [cf, c4, a3, a4]
  refine ⟨vp_in_nI (by omega) (by decide), fun y => ⟨rfl, ?_⟩, fun y => ⟨v4, fun y2 => ⟨rfl, ?_⟩, fun y2 => ⟨vp_in_nI (by omega) (by decide), fun y3 => ⟨rfl, ?_⟩, fun y3 => ⟨rfl, ?_⟩⟩⟩⟩
  · rw [if_neg fun c => y (by rw [← e1, c.1]; rfl)]
  · have l1 : D[f].2.1.length = 1 := (nI_eq (b := 1) (by omega) (by decide)).mp y
    have hq0 : D[f].2.1[0]? = some D[f].2.1[0] := List.getElem?_eq_getElem (by omega)
    have e2 : tyD D f 0 = D[f].2.1[0].2.2 := by unfold tyD; rw [hq]; simp only; rw [hq0]
    have := (a7 0 _ hq0).2.2
    rw [Nat.add_zero] at this
    rw [this] at y2
    rw [if_neg fun c => y2 (by rw [← e2, c.2.1]; rfl)]
  · rw [if_neg fun c => y3 (by rw [← e3, c.2.2]; rfl)]
  · have l1 : D[f].2.1.length = 1 := (nI_eq (b := 1) (by omega) (by decide)).mp y
    have hq0 : D[f].2.1[0]? = some D[f].2.1[0] := List.getElem?_eq_getElem (by omega)
    have e2 : tyD D f 0 = D[f].2.1[0].2.2 := by unfold tyD; rw [hq]; simp only; rw [hq0]
    have b3 := (a7 0 _ hq0).2.2
    rw [Nat.add_zero] at b3
    rw [b3] at y2
    have t3 := (o.2.2.1 _ (List.mem_of_getElem? hq0)).2.2
    have g3 := o.2.2.2.1.2
    rw [if_pos ⟨e1.trans l1, e2.trans ((nI_eq (b := 1) (by omega) (by decide)).mp y2), e3.trans ((nI_eq (b := 1) (by omega) (by decide)).mp y3)⟩]
theorem cnt_sz : ∀ (T : Tr) (a z k : Nat), okT t n T 1 a z k → cnt T ≤ sz T := by
  refine tr_ind (fun _ _ _ _ => Nat.le_refl 0) (fun kd a b c d l r hl hr _ a0 z0 k0 h => ?_)
  obtain ⟨rfl, -, -, -, -, o5, o6⟩ := ok_21.mp h
  have l1 := (ln_sz _ _ _ _ _ o5).1 rfl
  have r1 := hr _ _ _ o6
  show 1 + cnt r ≤ sz l + sz r
  omega
/-- what judging T through x says -/
def CK0 (t : Nat → UInt8) (n mm : Nat) (D : List FD) (T : Tr) : Prop := ∀ (d : Nat) (e : List (List Nat × Nat)) (w : Option Nat) (σ : fkS) (x : Int32), dpt T + 4 ≤ d → okT t n T 0 0 0 0 → sz T ≤ 400 → At T 0 x 0 mm σ → CM t n D mm e w σ → e.length + nD T ≤ 1000 → Ci d 356 [.ref 103, .int x] σ (fun v σ' => v = nI (ckT t D T e) ∧ CM t n D mm e (m2 w (ckF t D T e)) σ' ∧ Fr fkCK σ σ')
theorem CM.ty {e : List (List Nat × Nat)} {w : Option Nat} {σ : fkS} (h : CM t n D mm e w σ) (T : Tr) : ckT t D T e ≤ 3 := ckT_le h.1.gv T e h.2.2.2.2.1
/-- an E whose TYPE is told -/
theorem k_exp {d : Nat} {T : Tr} {e : List (List Nat × Nat)} {w : Option Nat} {σ : fkS} {x y p : Int32} {y0 p0 : Nat} (hT : CK0 t n mm D T) (hd : dpt T + 5 ≤ d) (ho : okT t n T 0 0 0 0) (hs : sz T ≤ 400) (ha : At T 0 x 0 mm σ) (h : CM t n D mm e w σ) (he : e.length + nD T ≤ 1000) (hy : y = nI y0) (hy3 : y0 ≤ 3) (hp : p = nI p0) (hp4 : p0 ≤ 4000) : Cv d 355 [.ref 103, .int x, .int p, .int y] σ (fun σ' => CM t n D mm e (m2 w (m2 (ckF t D T e) (exQ (ckT t D T e) y0 p0))) σ' ∧ Fr fkCK σ σ') := by
  subst hy
  subst hp
  obtain ⟨d, rfl⟩ : ∃ d', d = d' + 1 := ⟨d - 1, by omega⟩
  have t3 := h.ty T
  refine S_M_expects (vI (hT d e w σ x (by omega) ho hs ha h he) fun v σ1 ⟨hv, h1, f1⟩ => ?_)
  subst hv
  rw [← m2_a]
  have z0 : ∀ a : Nat, a ≤ 3 → (nI a = 0 ↔ a = 0) := fun a ha => nI_eq (b := 0) (by omega) (by decide)
  rw [z0 _ t3, z0 _ hy3, nI_eq (by omega) (by omega)]
  have no : ¬ (ckT t D T e ≠ 0 ∧ y0 ≠ 0 ∧ ckT t D T e ≠ y0) → CM t n D mm e (m2 (m2 w (ckF t D T e)) (exQ (ckT t D T e) y0 p0)) σ1 ∧ Fr fkCK σ σ1 := by
    intro c
    unfold exQ
    rw [if_neg c, m2_n]
    exact ⟨h1, f1⟩
  refine ⟨fun q => no fun c => c.1 q, fun q1 => ⟨fun q => no fun c => c.2.1 q, fun q2 => ⟨fun q => no fun c => c.2.2 q, fun q3 => ?_⟩⟩⟩
  unfold exQ
  rw [if_pos ⟨q1, q2, q3⟩]
  exact vV (k_at h1 hp4) fun σ2 ⟨h2, f2⟩ => ⟨h2, f1.tr f2⟩
/-- the E of a CALL -/
def CK1 (t : Nat → UInt8) (n mm : Nat) (D : List FD) (T : Tr) : Prop := ∀ (d : Nat) (e : List (List Nat × Nat)) (w : Option Nat) (σ : fkS) (x v2 : Int32) (a z k : Nat) (Q : Option Value → fkS → Prop), dpt T + 4 ≤ d → okT t n T 1 a z k → k + sz T ≤ 400 → At T 1 x 0 mm σ → CM t n D mm e w σ → e.length + nD T ≤ 1000 → (v2 = onI (fnI t D (nmT t a z) 0)) → (∀ σ', CM t n D mm e (m2 w (ckF t D T e)) σ' → Fr fkCK σ σ' → Q (some (.int (nI (gvO D (fnI t D (nmT t a z) 0))))) σ') → Wq 357 (d + 1) 56 [some (.ref 103), none, some (.int v2), some (.int (nI k)), some (.int x)] [] σ Q
theorem m2_s (a b c : Option Nat) : m2 a (m2 b c) = m2 (m2 a b) c := (m2_a a b c).symm
set_option maxHeartbeats 4000000 in
theorem m_chk (hm : mm ≤ 3000) : ∀ T : Tr, CK0 t n mm D T ∧ CK1 t n mm D T := by
  refine tr_ind2 ⟨fun d e w σ x hd ho _ _ _ _ => absurd (show 0 = 1 from ho) (by decide), fun d e w σ x v2 a z k Q hd ho hk ha h he hv hQ => ?_⟩ (fun kd a b c d0 l r hl hr hxy => ⟨fun d e w σ x hd ho hs ha h he => ?_, fun d e w σ x v2 a0 z0 k Q hd ho hk ha h he hv hQ => ?_⟩)
  · obtain ⟨-, rfl⟩ := ha
    have q := hQ σ (by rw [show ckF t D .leaf e = none from rfl, m2_n]; exact h) Fr.rf
    refine S_M_checkCall_56 ⟨fun _ => ?_, fun y => absurd (by decide) y⟩
    cases hf : fnI t D (nmT t a z) 0 with
    | none =>
      rw [hf, onI_n] at hv
      rw [hf] at q
      subst hv
      exact ⟨fun y => absurd y (by decide), fun _ => q⟩
    | some f =>
      rw [hf, onI_s] at hv
      rw [hf] at q
      subst hv
      obtain ⟨f1, r, f2, -⟩ := fnI_lt hf
      obtain ⟨hP, hM, -, h97, h20, hok⟩ := h.1
      have cf : (nI f).toNatClampNeg = f := nI_clamp (by omega)
      have e4 := (hM f r f2).2.2.2.1
      have eg : gvD D f = r.2.2.1 := by unfold gvD; rw [f2]
      rw [cf, e4, ← eg]
      exact ⟨fun _ => ⟨vp_in_nI (by omega) (by decide), q⟩, fun y => absurd (nI_pos' (by omega)) y⟩
  · obtain ⟨d, rfl⟩ : ∃ d', d = d' + 1 := ⟨d - 1, by omega⟩
    obtain ⟨k2, _, _, _, _, _, _, e2, hk⟩ := ok_k ho
    have ek : kd = k2 := by cases e2; rfl
    have hk' : kd ≤ 12 := by omega
    clear e2 hk ek
    have h4 : e.length ≤ 1000 := h.2.2.2.1
    obtain ⟨hP, hM, -, h97, h20, hok⟩ := h.1
    rcases (show kd = 0 ∨ kd = 1 ∨ kd = 2 ∨ kd = 3 ∨ kd = 4 ∨ kd = 5 ∨ kd = 6 ∨ kd = 7 ∨ kd = 8 ∨ kd = 9 ∨ kd = 10 ∨ kd = 11 ∨ kd = 12 by omega) with rfl | rfl | rfl | rfl | rfl | rfl | rfl | rfl | rfl | rfl | rfl | rfl | rfl
    · obtain ⟨j, rfl, -, j2, j3, j4⟩ := at_0.mp ha
      have cj : (nI j).toNatClampNeg = j := nI_clamp (by omega)
      have vj : vp_in (nI j) 3000 := vp_in_nI (by omega) (by decide)
      refine S_M_check ?_
      rw [cj, j3]
      refine ⟨vj, fun y => absurd y (by decide), fun _ => ?_, fun y => absurd y (by decide), fun y => absurd y (by decide), fun y => absurd y (by decide), fun y => absurd y (by decide), fun y => absurd y (by decide), fun y => absurd y (by decide), fun y => absurd y (by decide), fun y => absurd y (by decide), fun y => absurd y (by decide), fun y => absurd y (by decide), trivial⟩
      exact ⟨rfl, by rw [cF_0, m2_n]; exact h, Fr.rf⟩
    · obtain ⟨o1, o2, o3, o4, o5⟩ := ok_1.mp ho
      obtain ⟨j, rfl, -, j2, j1, j3, j4, j5, j6, j7⟩ := at_1.mp ha
      have hs' : a + sz l ≤ 400 := hs
      have hd' : 2 * a + dpt l + 4 ≤ d + 1 := hd
      have he' : e.length + max (nD l) (nD r) ≤ 1000 := he
      have key : ∀ i, i < a → ∀ d, 2 * (i + 1) + dpt l + 4 ≤ d → Ci d 356 [.ref 103, .int (nI (j + (a - 1 - i)))] σ (fun v σ' => v = 1 ∧ CM t n D mm e (m2 w (m2 (ckF t D l e) (exQ (ckT t D l e) 1 b))) σ' ∧ Fr fkCK σ σ') := by
        intro i
        induction i with
        | zero =>
          intro hi d hd
          obtain ⟨d, rfl⟩ : ∃ d', d = d' + 1 := ⟨d - 1, by omega⟩
          have ej : j + (a - 1 - 0) = j + a - 1 := by omega
          have cj : (nI (j + a - 1)).toNatClampNeg = j + a - 1 := nI_clamp (by omega)
          have vj : vp_in (nI (j + a - 1)) 3000 := vp_in_nI (by omega) (by decide)
          have j4' : σ.1 164 (j + a - 1) = 1 := by rw [← ej]; exact j4 _ (by omega)
          rw [ej]
          refine S_M_check ?_
          rw [cj, j4', j6]
          refine ⟨vj, fun y => absurd y (by decide), fun y => absurd y (by decide), fun _ => ⟨vj, vj, ?_⟩, fun y => absurd y (by decide), fun y => absurd y (by decide), fun y => absurd y (by decide), fun y => absurd y (by decide), fun y => absurd y (by decide), fun y => absurd y (by decide), fun y => absurd y (by decide), fun y => absurd y (by decide), fun y => absurd y (by decide), trivial⟩
          exact vV (k_exp hl.1 (by omega) o4 (by omega) j7 h (by omega) rfl (by decide) rfl o3) fun σ1 ⟨h1, f1⟩ => ⟨rfl, h1, f1⟩
        | succ i ih =>
          intro hi d hd
          obtain ⟨d, rfl⟩ : ∃ d', d = d' + 2 := ⟨d - 2, by omega⟩
          have cj : (nI (j + (a - 1 - (i + 1)))).toNatClampNeg = j + (a - 1 - (i + 1)) := nI_clamp (by omega)
          have vj : vp_in (nI (j + (a - 1 - (i + 1)))) 3000 := vp_in_nI (by omega) (by decide)
          have ej : j + (a - 1 - (i + 1)) + 1 = j + (a - 1 - i) := by omega
          refine S_M_check ?_
          rw [cj, j4 _ (by omega), j5 _ (by omega), ej]
          refine ⟨vj, fun y => absurd y (by decide), fun y => absurd y (by decide), fun _ => ⟨vj, vj, ?_⟩, fun y => absurd y (by decide), fun y => absurd y (by decide), fun y => absurd y (by decide), fun y => absurd y (by decide), fun y => absurd y (by decide), fun y => absurd y (by decide), fun y => absurd y (by decide), fun y => absurd y (by decide), fun y => absurd y (by decide), trivial⟩
          refine S_M_expects (vI (ih (by omega) d (by omega)) fun v σ1 ⟨hv, h1, f1⟩ => ?_)
          subst hv
          exact ⟨fun y => absurd y (by decide), fun _ => ⟨fun y => absurd y (by decide), fun _ => ⟨fun _ => ⟨rfl, h1, f1⟩, fun y => absurd rfl y⟩⟩⟩
      have k0 := key (a - 1) (by omega) (d + 1) (by omega)
      rw [show j + (a - 1 - (a - 1)) = j by omega] at k0
      exact k0
    · obtain ⟨o1, -, -⟩ := ok_2.mp ho
      obtain ⟨j, rfl, -, j2, j3, j4, j5⟩ := at_2.mp ha
      have hd' : 0 + 4 ≤ d + 1 := hd
      obtain ⟨d, rfl⟩ : ∃ d', d = d' + 1 := ⟨d - 1, by omega⟩
      obtain ⟨n1, n2⟩ := nm_in o1
      have hn := hP.2.2
      obtain ⟨p1, p2⟩ := plc_lk (x := nmT t a b) e
      have cj : (nI j).toNatClampNeg = j := nI_clamp (by omega)
      have vj : vp_in (nI j) 3000 := vp_in_nI (by omega) (by decide)
      refine S_M_check ?_
      rw [cj, j3]
      refine ⟨vj, fun y => absurd y (by decide), fun y => absurd y (by decide), fun y => absurd y (by decide), fun _ => ⟨vj, vj, ?_⟩, fun y => absurd y (by decide), fun y => absurd y (by decide), fun y => absurd y (by decide), fun y => absurd y (by decide), fun y => absurd y (by decide), fun y => absurd y (by decide), fun y => absurd y (by decide), fun y => absurd y (by decide), trivial⟩
      rw [j4, j5]
      refine vI (k_pl h n1) fun x s ⟨e1, e2⟩ => ?_
      subst e1
      cases hp : plc e (nmT t a b) with
      | some i =>
        rw [hp, onI_s] at e2
        subst e2
        obtain ⟨i1, q, i2, i3, i4⟩ := p1 i hp
        obtain ⟨b1, z1, -, -, -, -, b5⟩ := h.2.1 i q i2
        have ci : (nI i).toNatClampNeg = i := nI_clamp (by omega)
        have p0 : (0 : Int32) ≤ nI i := nI_pos' (by omega)
        refine ⟨fun _ => ⟨fun _ => ⟨vp_in_nI (by omega) (by decide), ?_⟩, fun y => absurd p0 y⟩, fun y => absurd p0 y⟩
        rw [ci, b5]
        refine ⟨?_, ?_, Fr.rf⟩
        · rw [cT_2, i4]; rfl
        · rw [cF_2, i4, if_neg (by simp), m2_n]; exact h
      | none =>
        rw [hp, onI_n] at e2
        subst e2
        have i4 := p2.mp hp
        refine ⟨fun y => absurd y (by decide), fun _ => ⟨vj, ?_⟩⟩
        rw [j4]
        refine vV (k_at h (p := a) (by omega)) fun σ1 ⟨h1, f1⟩ => ⟨fun y => absurd y (by decide), fun _ => ⟨?_, ?_, f1⟩⟩
        · rw [cT_2, i4]; rfl
        · rw [cF_2, i4, if_pos rfl]; exact h1
    · obtain ⟨o1, o2, o3, o4, -⟩ := ok_3.mp ho
      obtain ⟨j, rfl, -, j2, j3, j4, j5, j6, j7⟩ := at_3.mp ha
      have hs' : 1 + sz l ≤ 400 := hs
      have hd' : 2 + dpt l + 4 ≤ d + 1 := hd
      have he' : e.length + max (nD l) (nD r) ≤ 1000 := he
      obtain ⟨d, rfl⟩ : ∃ d', d = d' + 2 := ⟨d - 2, by omega⟩
      obtain ⟨n1, n2⟩ := nm_in o1
      have hn := hP.2.2
      have cj : (nI j).toNatClampNeg = j := nI_clamp (by omega)
      have vj : vp_in (nI j) 3000 := vp_in_nI (by omega) (by decide)
      refine S_M_check ?_
      rw [cj, j3]
      refine ⟨vj, fun y => absurd y (by decide), fun y => absurd y (by decide), fun y => absurd y (by decide), fun y => absurd y (by decide), fun _ => ?_, fun y => absurd y (by decide), fun y => absurd y (by decide), fun y => absurd y (by decide), fun y => absurd y (by decide), fun y => absurd y (by decide), fun y => absurd y (by decide), fun y => absurd y (by decide), trivial⟩
      have cz := cnt_sz _ _ _ _ o4
      have rest : ∀ (w1 : Option Nat) (σ1 : fkS) (x2 : Int32), CM t n D mm e w1 σ1 → Fr fkCK σ σ1 → (x2 = onI (fnI t D (nmT t a b) 0)) → m2 w (tkO D a c (fnI t D (nmT t a b) 0)) = w1 → Wq 357 (d + 2) 56 [some (.ref 103), none, some (.int x2), some (.int (0 : Int32)), some (.int (σ1.1 166 j))] [] σ1 (Qi fun v σ' => v = nI (ckT t D (nd 3 a b c d0 l r) e) ∧ CM t n D mm e (m2 w (ckF t D (nd 3 a b c d0 l r) e)) σ' ∧ Fr fkCK σ σ') := by
        intro w1 σ1 x2 h1 f1 hx hw1
        rw [(f1 166 j (fkCK_no (by omega))).1]
        refine hl.2 (d + 1) e w1 σ1 _ x2 a b 0 _ (by omega) o4 (by omega) (at_ck j7 f1) h1 (by omega) hx fun σ' h2 f2 => ⟨?_, ?_, f1.tr f2⟩
        · rw [cT_3]
        · rw [cF_3, m2_s, hw1]; exact h2
      refine S_M_checkCall ⟨vj, vj, ?_⟩
      rw [cj, j4, j5]
      refine vI (k_fn h.1 n1) fun x s ⟨e1, e2⟩ => ?_
      subst e1
      rw [j4, j6]
      cases hf : fnI t D (nmT t a b) 0 with
      | none =>
        rw [hf, onI_n] at e2
        rw [hf] at rest
        subst e2
        refine ⟨fun _ => ⟨vj, vV (k_at h (p := a) (by omega)) fun σ1 ⟨h1, f1⟩ => ⟨vj, rest _ σ1 _ h1 f1 rfl rfl⟩⟩, fun y => absurd (by decide) y⟩
      | some f =>
        rw [hf, onI_s] at e2
        rw [hf] at rest
        subst e2
        obtain ⟨f1, r2, f2, -⟩ := fnI_lt hf
        have cf : (nI f).toNatClampNeg = f := nI_clamp (by omega)
        obtain ⟨-, -, m3, -, -, m6, -, -⟩ := hM f r2 f2
        have et : tkD D f = r2.2.1.length := by unfold tkD; rw [f2]
        rw [cf, m3, ← et]
        have ee : nI (tkD D f) = nI c ↔ tkD D f = c := nI_eq (by omega) (by omega)
        refine ⟨fun y => absurd y (nI_pos (by omega)), fun _ => ⟨vp_in_nI (by omega) (by decide), vj, fun y => ⟨vj, ?_⟩, fun y => ⟨vj, ?_⟩⟩⟩
        · refine rest w s _ h Fr.rf rfl ?_
          show m2 w (if tkD D f = c then none else some a) = w
          rw [if_pos (ee.mp y), m2_n]
        · refine vV (k_at h (p := a) (by omega)) fun σ1 ⟨h1, f1⟩ => ⟨vj, rest _ σ1 _ h1 f1 rfl ?_⟩
          show m2 w (if tkD D f = c then none else some a) = _
          rw [if_neg fun q => y (ee.mpr q)]
    · obtain ⟨o1, o2, -, -⟩ := ok_4.mp ho
      obtain ⟨j, rfl, -, j2, j3, j6, j4, j5⟩ := at_4.mp ha
      have hd' : 0 + 4 ≤ d + 1 := hd
      obtain ⟨d, rfl⟩ : ∃ d', d = d' + 1 := ⟨d - 1, by omega⟩
      obtain ⟨n1, n2⟩ := nm_in o1
      have hn := hP.2.2
      have cj : (nI j).toNatClampNeg = j := nI_clamp (by omega)
      have vj : vp_in (nI j) 3000 := vp_in_nI (by omega) (by decide)
      refine S_M_check ?_
      rw [cj, j3]
      refine ⟨vj, fun y => absurd y (by decide), fun y => absurd y (by decide), fun y => absurd y (by decide), fun y => absurd y (by decide), fun y => absurd y (by decide), fun _ => ⟨vj, vj, ?_⟩, fun y => absurd y (by decide), fun y => absurd y (by decide), fun y => absurd y (by decide), fun y => absurd y (by decide), fun y => absurd y (by decide), fun y => absurd y (by decide), trivial⟩
      rw [j4, j5]
      refine vI (k_fn h.1 n1) fun x s ⟨e1, e2⟩ => ?_
      subst e1
      rw [j4]
      cases hf : fnI t D (nmT t a b) 0 with
      | none =>
        rw [hf, onI_n] at e2
        subst e2
        refine ⟨fun y => absurd y (by decide), fun _ => ⟨vj, vV (k_at h (p := a) (by omega)) fun σ1 ⟨h1, f1⟩ => ⟨rfl, ?_, f1⟩⟩⟩
        rw [cF_4, hf]; exact h1
      | some f =>
        rw [hf, onI_s] at e2
        subst e2
        obtain ⟨f1, r2, f2, -⟩ := fnI_lt hf
        refine ⟨fun _ => vI (k_act h.1 f1) fun v s2 ⟨e1, e2⟩ => ?_, fun y => absurd (nI_pos' (by omega)) y⟩
        subst e1
        rw [j6]
        by_cases q : acD D f
        · rw [if_pos q] at e2
          subst e2
          refine ⟨fun _ => ⟨rfl, ?_, Fr.rf⟩, fun y => absurd y (by decide)⟩
          rw [cF_4, hf]
          show CM t n D mm e (m2 w (if acD D f then none else some c)) _
          rw [if_pos q, m2_n]; exact h
        · rw [if_neg q] at e2
          subst e2
          refine ⟨fun y => absurd rfl y, fun _ => ⟨vj, vV (k_at h o2) fun σ1 ⟨h1, f1⟩ => ⟨rfl, ?_, f1⟩⟩⟩
          rw [cF_4, hf]
          show CM t n D mm e (m2 w (if acD D f then none else some c)) _
          rw [if_neg q]; exact h1
    · obtain ⟨j, rfl, -, j2, j3⟩ := at_5.mp ha
      have cj : (nI j).toNatClampNeg = j := nI_clamp (by omega)
      have vj : vp_in (nI j) 3000 := vp_in_nI (by omega) (by decide)
      refine S_M_check ?_
      rw [cj, j3]
      refine ⟨vj, fun y => absurd y (by decide), fun y => absurd y (by decide), fun y => absurd y (by decide), fun y => absurd y (by decide), fun y => absurd y (by decide), fun y => absurd y (by decide), fun _ => ?_, fun y => absurd y (by decide), fun y => absurd y (by decide), fun y => absurd y (by decide), fun y => absurd y (by decide), fun y => absurd y (by decide), trivial⟩
      exact ⟨rfl, by rw [cF_5, m2_n]; exact h, Fr.rf⟩
    · obtain ⟨o1, o2, o3, o4⟩ := ok_6.mp ho
      obtain ⟨j, rfl, -, j2, j3, j4, j5, j6, j7⟩ := at_6.mp ha
      have hs' : 1 + sz l + sz r ≤ 400 := hs
      have hd' : 2 + max (dpt l) (dpt r) + 4 ≤ d + 1 := hd
      have he' : e.length + max (nD l) (nD r) ≤ 1000 := he
      have cj : (nI j).toNatClampNeg = j := nI_clamp (by omega)
      have vj : vp_in (nI j) 3000 := vp_in_nI (by omega) (by decide)
      refine S_M_check ?_
      rw [cj, j3]
      refine ⟨vj, fun y => absurd y (by decide), fun y => absurd y (by decide), fun y => absurd y (by decide), fun y => absurd y (by decide), fun y => absurd y (by decide), fun y => absurd y (by decide), fun y => absurd y (by decide), fun _ => ⟨vj, vj, ?_⟩, fun y => absurd y (by decide), fun y => absurd y (by decide), fun y => absurd y (by decide), fun y => absurd y (by decide), trivial⟩
      rw [j4]
      refine vV (k_exp hl.1 (by omega) o3 (by omega) j6 h (by omega) rfl (by decide) rfl o1) fun σ1 ⟨h1, f1⟩ => ⟨vj, vj, ?_⟩
      rw [(f1 167 j (fkCK_no (by omega))).1, (f1 170 j (fkCK_no (by omega))).1, j5]
      refine vV (k_exp hr.1 (by omega) o4 (by omega) (at_ck j7 f1) h1 (by omega) rfl (by decide) rfl o2) fun σ2 ⟨h2, f2⟩ => ⟨rfl, ?_, f1.tr f2⟩
      rw [cF_6, m2_s w]
      exact h2
    · obtain ⟨o1, o2, o3, o4⟩ := ok_7.mp ho
      obtain ⟨j, rfl, -, j2, j3, j4, j5, j6, j7⟩ := at_7.mp ha
      have hs' : 1 + sz l + sz r ≤ 400 := hs
      have hd' : 2 + max (dpt l) (dpt r) + 4 ≤ d + 1 := hd
      have he' : e.length + max (nD l) (nD r) ≤ 1000 := he
      have cj : (nI j).toNatClampNeg = j := nI_clamp (by omega)
      have vj : vp_in (nI j) 3000 := vp_in_nI (by omega) (by decide)
      refine S_M_check ?_
      rw [cj, j3]
      refine ⟨vj, fun y => absurd y (by decide), fun y => absurd y (by decide), fun y => absurd y (by decide), fun y => absurd y (by decide), fun y => absurd y (by decide), fun y => absurd y (by decide), fun y => absurd y (by decide), fun y => absurd y (by decide), fun _ => ⟨vj, vj, ?_⟩, fun y => absurd y (by decide), fun y => absurd y (by decide), fun y => absurd y (by decide), trivial⟩
      rw [j4]
      refine vV (k_exp hl.1 (by omega) o3 (by omega) j6 h (by omega) rfl (by decide) rfl o1) fun σ1 ⟨h1, f1⟩ => ⟨vj, vj, ?_⟩
      rw [(f1 167 j (fkCK_no (by omega))).1, (f1 170 j (fkCK_no (by omega))).1, j5]
      refine vV (k_exp hr.1 (by omega) o4 (by omega) (at_ck j7 f1) h1 (by omega) rfl (by decide) rfl o2) fun σ2 ⟨h2, f2⟩ => ⟨rfl, ?_, f1.tr f2⟩
      rw [cF_7, m2_s w]
      exact h2
    · obtain ⟨o1, o3, o4⟩ := ok_8.mp ho
      obtain ⟨j, rfl, -, j2, j3, j4, j5, j6, j7⟩ := at_8.mp ha
      have hs' : sz l + sz r ≤ 400 := hs
      have hd' : 2 + max (dpt l) (dpt r) + 4 ≤ d + 1 := hd
      have he' : e.length + max (nD l) (1 + nD r) ≤ 1000 := he
      obtain ⟨n1, n2⟩ := nm_in o1
      have cj : (nI j).toNatClampNeg = j := nI_clamp (by omega)
      have vj : vp_in (nI j) 3000 := vp_in_nI (by omega) (by decide)
      refine S_M_check ?_
      rw [cj, j3]
      refine ⟨vj, fun y => absurd y (by decide), fun y => absurd y (by decide), fun y => absurd y (by decide), fun y => absurd y (by decide), fun y => absurd y (by decide), fun y => absurd y (by decide), fun y => absurd y (by decide), fun y => absurd y (by decide), fun y => absurd y (by decide), fun _ => ⟨vj, ?_⟩, fun y => absurd y (by decide), fun y => absurd y (by decide), trivial⟩
      refine vI (hl.1 d e w σ _ (by omega) o3 (by omega) j6 h (by omega)) fun x σ1 ⟨hx, h1, f1⟩ => ⟨vj, vj, ?_⟩
      subst hx
      rw [(f1 172 j (fkCK_no (by omega))).1, (f1 173 j (fkCK_no (by omega))).1, j4, j5]
      refine vV (k_bind h1 (by omega) n1 (h.ty l)) fun σ2 ⟨h2, f2⟩ => ⟨vj, ?_⟩
      rw [((f1.tr f2) 167 j (fkCK_no (by omega))).1]
      refine vI (hr.1 d _ _ σ2 _ (by omega) o4 (by omega) (at_ck j7 (f1.tr f2)) h2 (by show e.length + 1 + nD r ≤ 1000; omega)) fun x3 σ3 ⟨hx3, h3, f3⟩ => ?_
      have kd := k_drop (q := [(nmT t a b, ckT t D l e)]) (v := σ3.1 103 117 - 1) h3 (by
        rw [h3.2.2.1, List.length_cons, show (1 : Int32) = nI 1 from rfl, nI_sub (by omega), Nat.add_sub_cancel])
      refine ⟨hx3, ?_, ((f1.tr f2).tr f3).tr kd.2⟩
      rw [cF_8, m2_s]
      exact kd.1
    · obtain ⟨o1, o2, o3, o4⟩ := ok_9.mp ho
      obtain ⟨j, rfl, -, j2, j3, j4, j5, j6, j7⟩ := at_9.mp ha
      cases r with
      | leaf => exact absurd (show 2 = 1 from o4) (by decide)
      | inner k2 v u y z =>
      obtain ⟨rfl, o5, o6⟩ := ok_20.mp o4
      obtain ⟨j', e', -, jb, j8, j9⟩ := at_20.mp j7
      have ej : j' = j := ((nI_eq (by omega) (by omega)).mp e').symm
      subst ej
      obtain ⟨hy, hz⟩ := hxy 20 v.1 v.2.1 v.2.2.1 v.2.2.2 y z rfl
      have hd' : 2 + max (dpt l) (max (dpt y) (dpt z)) + 4 ≤ d + 1 := hd
      have hs' : sz l + (sz y + sz z) ≤ 400 := hs
      have he' : e.length + max (nD l) (max (nD y) (nD z)) ≤ 1000 := he
      have cj : (nI j').toNatClampNeg = j' := nI_clamp (by omega)
      have vj : vp_in (nI j') 3000 := vp_in_nI (by omega) (by decide)
      refine S_M_check ?_
      rw [cj, j3]
      refine ⟨vj, fun y => absurd y (by decide), fun y => absurd y (by decide), fun y => absurd y (by decide), fun y => absurd y (by decide), fun y => absurd y (by decide), fun y => absurd y (by decide), fun y => absurd y (by decide), fun y => absurd y (by decide), fun y => absurd y (by decide), fun y => absurd y (by decide), fun _ => ⟨vj, vj, ?_⟩, fun y => absurd y (by decide), trivial⟩
      rw [j4]
      refine vV (k_exp hl.1 (by omega) o3 (by omega) j6 h (by omega) rfl (by decide) rfl o1) fun σ1 ⟨h1, f1⟩ => ⟨vj, ?_⟩
      rw [(f1 167 j' (fkCK_no (by omega))).1]
      refine vI (hy.1 d e _ σ1 _ (by omega) o5 (by omega) (at_ck j8 f1) h1 (by omega)) fun x2 σ2 ⟨hx2, h2, f2⟩ => ⟨vj, vj, ?_⟩
      subst hx2
      have f12 := f1.tr f2
      rw [(f12 168 j' (fkCK_no (by omega))).1, (f12 171 j' (fkCK_no (by omega))).1, j5]
      refine vV (k_exp hz.1 (by omega) o6 (by omega) (at_ck j9 f12) h2 (by omega) rfl (h.ty y) rfl o2) fun σ3 ⟨h3, f3⟩ => ⟨rfl, ?_, f12.tr f3⟩
      have ef : m2 w (ckF t D (nd 9 a b c d0 l (.inner 20 v u y z)) e) = m2 (m2 (m2 w (m2 (ckF t D l e) (exQ (ckT t D l e) 1 a))) (ckF t D y e)) (m2 (ckF t D z e) (exQ (ckT t D z e) (ckT t D y e) b)) := by
        show m2 w (m2 (m2 (ckF t D l e) (exQ (ckT t D l e) 1 a)) (m2 (m2 (ckF t D y e) (ckF t D z e)) (exQ (ckT t D z e) (ckT t D y e) b))) = _
        simp only [m2_a]
      rw [ef]
      exact h3
    · obtain ⟨o1, o2, o3, o4⟩ := ok_10.mp ho
      obtain ⟨j, rfl, -, j2, j3, j4, j5, j6, j7⟩ := at_10.mp ha
      cases r with
      | leaf => exact absurd (show 3 = 1 from o4) (by decide)
      | inner k2 v u y z =>
      obtain ⟨rfl, o7, o8, o5, o6⟩ := ok_22.mp o4
      obtain ⟨j', e', -, jb, i1, i2, i3, i4, j8, j9⟩ := at_22.mp j7
      have ej : j' = j := ((nI_eq (by omega) (by omega)).mp e').symm
      subst ej
      obtain ⟨hy, hz⟩ := hxy 22 v.1 v.2.1 v.2.2.1 v.2.2.2 y z rfl
      have hd' : 2 + max (dpt l) (max (dpt y) (dpt z)) + 4 ≤ d + 1 := hd
      have hs' : sz l + (sz y + sz z) ≤ 400 := hs
      have he' : e.length + max (nD l) (max (nD y) (2 + nD z)) ≤ 1000 := he
      obtain ⟨n1, -⟩ := nm_in o7
      obtain ⟨n2, -⟩ := nm_in o8
      have cj : (nI j').toNatClampNeg = j' := nI_clamp (by omega)
      have vj : vp_in (nI j') 3000 := vp_in_nI (by omega) (by decide)
      refine S_M_check ?_
      rw [cj, j3]
      refine ⟨vj, fun y => absurd y (by decide), fun y => absurd y (by decide), fun y => absurd y (by decide), fun y => absurd y (by decide), fun y => absurd y (by decide), fun y => absurd y (by decide), fun y => absurd y (by decide), fun y => absurd y (by decide), fun y => absurd y (by decide), fun y => absurd y (by decide), fun y => absurd y (by decide), fun _ => ⟨vj, vj, ?_⟩, trivial⟩
      rw [j4]
      refine vV (k_exp hl.1 (by omega) o3 (by omega) j6 h (by omega) rfl (by decide) rfl o1) fun σ1 ⟨h1, f1⟩ => ⟨vj, ?_⟩
      rw [(f1 167 j' (fkCK_no (by omega))).1]
      refine vI (hy.1 d e _ σ1 _ (by omega) o5 (by omega) (at_ck j8 f1) h1 (by omega)) fun x2 σ2 ⟨hx2, h2, f2⟩ => ⟨vj, vj, ?_⟩
      subst hx2
      have f12 := f1.tr f2
      rw [(f12 172 j' (fkCK_no (by omega))).1, (f12 173 j' (fkCK_no (by omega))).1, i1, i2]
      refine vV (k_bind (ty := 1) h2 (by omega) n1 (by decide)) fun σ3 ⟨h3, f3⟩ => ⟨vj, vj, ?_⟩
      have f13 := f12.tr f3
      rw [(f13 174 j' (fkCK_no (by omega))).1, (f13 175 j' (fkCK_no (by omega))).1, i3, i4]
      refine vV (k_bind (ty := 2) h3 (by show e.length + 1 < 1000; omega) n2 (by decide)) fun σ4 ⟨h4, f4⟩ => ⟨vj, vj, ?_⟩
      have f14 := f13.tr f4
      rw [(f14 168 j' (fkCK_no (by omega))).1, (f14 171 j' (fkCK_no (by omega))).1, j5]
      refine vV (k_exp hz.1 (by omega) o6 (by omega) (at_ck j9 f14) h4 (by show e.length + 1 + 1 + nD z ≤ 1000; omega) rfl (h.ty y) rfl o2) fun σ5 ⟨h5, f5⟩ => ?_
      have kd := k_drop (q := [(nmT t v.2.2.1 v.2.2.2, 2), (nmT t v.1 v.2.1, 1)]) (v := σ5.1 103 117 - 2) h5 (by
        rw [h5.2.2.1, List.length_cons, List.length_cons, show (2 : Int32) = nI 2 from rfl, nI_sub (by omega)]
        congr 1)
      refine ⟨rfl, ?_, (f14.tr f5).tr kd.2⟩
      have ef : m2 w (ckF t D (nd 10 a b c d0 l (.inner 22 v u y z)) e) = m2 (m2 (m2 w (m2 (ckF t D l e) (exQ (ckT t D l e) 2 a))) (ckF t D y e)) (m2 (ckF t D z ((nmT t v.2.2.1 v.2.2.2, 2) :: (nmT t v.1 v.2.1, 1) :: e)) (exQ (ckT t D z ((nmT t v.2.2.1 v.2.2.2, 2) :: (nmT t v.1 v.2.1, 1) :: e)) (ckT t D y e) b)) := by
        show m2 w (m2 (m2 (ckF t D l e) (exQ (ckT t D l e) 2 a)) (m2 (m2 (ckF t D y e) (ckF t D z ((nmT t v.2.2.1 v.2.2.2, 2) :: (nmT t v.1 v.2.1, 1) :: e))) (exQ (ckT t D z ((nmT t v.2.2.1 v.2.2.2, 2) :: (nmT t v.1 v.2.1, 1) :: e)) (ckT t D y e) b))) = _
        simp only [m2_a]
      rw [ef]
      exact kd.1
    · obtain ⟨o0, o1, o2, o3, o4⟩ := ok_11.mp ho
      obtain ⟨j, rfl, -, j2, j3, j0, j4, j5, j6, j7⟩ := at_11.mp ha
      have hs' : sz l + sz r ≤ 400 := hs
      have hd' : 2 + max (dpt l) (dpt r) + 4 ≤ d + 1 := hd
      have he' : e.length + max (nD l) (nD r) ≤ 1000 := he
      have cj : (nI j).toNatClampNeg = j := nI_clamp (by omega)
      have vj : vp_in (nI j) 3000 := vp_in_nI (by omega) (by decide)
      refine S_M_check ?_
      rw [cj, j3]
      refine ⟨vj, fun _ => ⟨vj, vj, ?_⟩, fun y => absurd y (by decide), fun y => absurd y (by decide), fun y => absurd y (by decide), fun y => absurd y (by decide), fun y => absurd y (by decide), fun y => absurd y (by decide), fun y => absurd y (by decide), fun y => absurd y (by decide), fun y => absurd y (by decide), fun y => absurd y (by decide), fun y => absurd y (by decide), trivial⟩
      rw [j4]
      refine vV (k_exp hl.1 (by omega) o3 (by omega) j6 h (by omega) rfl (by decide) rfl o1) fun σ1 ⟨h1, f1⟩ => ⟨vj, vj, ?_⟩
      rw [(f1 167 j (fkCK_no (by omega))).1, (f1 170 j (fkCK_no (by omega))).1, j5]
      refine vV (k_exp hr.1 (by omega) o4 (by omega) (at_ck j7 f1) h1 (by omega) rfl (by decide) rfl o2) fun σ2 ⟨h2, f2⟩ => ⟨rfl, ?_, f1.tr f2⟩
      rw [cF_11, m2_s w]
      exact h2
    · obtain ⟨o0, o1, o2, o3, o4, -⟩ := ok_12.mp ho
      obtain ⟨j, rfl, -, j2, j3, j0, j4, j5, j6, j7⟩ := at_12.mp ha
      have hs' : sz l + sz r ≤ 400 := hs
      have hd' : 2 + max (dpt l) (dpt r) + 4 ≤ d + 1 := hd
      have he' : e.length + max (nD l) (nD r) ≤ 1000 := he
      have cj : (nI j).toNatClampNeg = j := nI_clamp (by omega)
      have vj : vp_in (nI j) 3000 := vp_in_nI (by omega) (by decide)
      refine S_M_check ?_
      rw [cj, j3]
      refine ⟨vj, fun _ => ⟨vj, vj, ?_⟩, fun y => absurd y (by decide), fun y => absurd y (by decide), fun y => absurd y (by decide), fun y => absurd y (by decide), fun y => absurd y (by decide), fun y => absurd y (by decide), fun y => absurd y (by decide), fun y => absurd y (by decide), fun y => absurd y (by decide), fun y => absurd y (by decide), fun y => absurd y (by decide), trivial⟩
      rw [j4]
      refine vV (k_exp hl.1 (by omega) o3 (by omega) j6 h (by omega) rfl (by decide) rfl o1) fun σ1 ⟨h1, f1⟩ => ⟨vj, vj, ?_⟩
      rw [(f1 167 j (fkCK_no (by omega))).1, (f1 170 j (fkCK_no (by omega))).1, j5]
      refine vV (k_exp hr.1 (by omega) o4 (by omega) (at_ck j7 f1) h1 (by omega) rfl (by decide) rfl o2) fun σ2 ⟨h2, f2⟩ => ⟨rfl, ?_, f1.tr f2⟩
      rw [cF_12, m2_s w]
      exact h2
  · obtain ⟨rfl, rfl, rfl, o3, rfl, o5, o6⟩ := ok_21.mp ho
    obtain ⟨j, rfl, -, j2, j3, j4, j5⟩ := at_21.mp ha
    have hd' : max (2 + dpt l) (dpt r) + 4 ≤ d := hd
    have he' : e.length + max (nD l) (nD r) ≤ 1000 := he
    have hk' : d0 + (sz l + sz r) ≤ 400 := hk
    have l1 := (ln_sz _ _ _ _ _ o5).1 rfl
    have cj : (nI j).toNatClampNeg = j := nI_clamp (by omega)
    have vj : vp_in (nI j) 3000 := vp_in_nI (by omega) (by decide)
    have ek : nI d0 + 1 = nI (d0 + 1) := (nI_succ d0).symm
    obtain ⟨hP, hM, -, h97, h20, hok⟩ := h.1
    refine S_M_checkCall_56 ⟨fun y => absurd y (nI_pos (by omega)), fun _ => ⟨vj, vj, ?_⟩⟩
    rw [cj, j3, ek]
    -- E d0, then those behind it
    have go : ∀ (y : Int32), y = nI (atD t D (nmT t a b) d0) → atD t D (nmT t a b) d0 ≤ 3 → Cv d 355 [.ref 103, .int (σ.1 166 j), .int (nI c), .int y] σ (fun σ1 => vp_in (nI j) 3000 ∧ Wq 357 (d + 1) 56 [some (.ref 103), none, some (.int v2), some (.int (nI (d0 + 1))), some (.int (σ1.1 167 j))] [] σ1 Q) := by
      intro y hy hy3
      refine vV (k_exp hl.1 (by omega) o5 (by omega) j4 h (by omega) hy hy3 rfl o3) fun σ1 ⟨h1, f1⟩ => ⟨vj, ?_⟩
      rw [(f1 167 j (fkCK_no (by omega))).1]
      refine hr.2 d e _ σ1 _ v2 a b (d0 + 1) Q (by omega) o6 (by omega) (at_ck j5 f1) h1 (by omega) hv fun σ' h2 f2 => hQ σ' ?_ (f1.tr f2)
      rw [cF_21, m2_s]
      exact h2
    cases hf : fnI t D (nmT t a b) 0 with
    | none =>
      have e0 : atD t D (nmT t a b) d0 = 0 := by unfold atD; rw [hf]; rfl
      rw [hf, onI_n] at hv
      rw [e0] at go
      subst hv
      exact ⟨fun _ => go 0 rfl (by decide), fun y => absurd (by decide) y⟩
    | some f =>
      have e0 : atD t D (nmT t a b) d0 = tyD D f d0 := by unfold atD; rw [hf]; rfl
      rw [hf, onI_s] at hv
      rw [e0] at go
      subst hv
      obtain ⟨f1, r2, f2, -⟩ := fnI_lt hf
      have cf : (nI f).toNatClampNeg = f := nI_clamp (by omega)
      obtain ⟨-, -, m3, -, -, m6, m7, -⟩ := hM f r2 f2
      have o2 := hok r2 (List.mem_of_getElem? f2)
      have e4 : (4 : Int32) * nI f + nI d0 = nI (4 * f + d0) := by rw [show (4 : Int32) = nI 4 from rfl, nI_mul, nI_add]
      have et : tyD D f d0 = match r2.2.1[d0]? with
        | some a => a.2.2
        | none => 0 := by unfold tyD; rw [f2]; rfl
      refine ⟨fun y => absurd y (nI_pos (by omega)), fun _ => ⟨vp_in_nI (by omega) (by decide), ?_⟩⟩
      rw [cf, m3, e4]
      refine ⟨fun y => ?_, fun y => ?_⟩
      · have c2 : r2.2.1.length ≤ d0 := by
          rcases Nat.lt_or_ge d0 r2.2.1.length with q | q
          · exact absurd y (nI_ge q (by omega))
          · exact q
        rw [List.getElem?_eq_none c2] at et
        have et' : tyD D f d0 = 0 := et
        rw [et'] at go
        exact go 0 rfl (by decide)
      · have c2 : d0 < r2.2.1.length := by
          rcases Nat.lt_or_ge d0 r2.2.1.length with q | q
          · exact q
          · exact absurd (nI_le q (by omega)) y
        have hk2 : r2.2.1[d0]? = some r2.2.1[d0] := List.getElem?_eq_getElem c2
        rw [hk2] at et
        have et' : tyD D f d0 = r2.2.1[d0].2.2 := et
        have c4 : (nI (4 * f + d0)).toNatClampNeg = 4 * f + d0 := nI_clamp (by omega)
        rw [c4, (m7 d0 _ hk2).2.2]
        rw [et'] at go
        exact ⟨vp_in_nI (by omega) (by decide), go _ rfl (o2.2.2.1 _ (List.mem_of_getElem? hk2)).2.2⟩
end CN
