/-! THE CLASS runs: all of it -/
/-- the kept PROGRAM in the class -/
def KPc (t : Nat → UInt8) (D : List FD) (σ : fkS) : Prop := (σ.1 62 9 = nI (cGd t D D 0).length ∧ (cGd t D D 0).length ≤ 3000 ∧ ∀ i e, (cGd t D D 0)[i]? = some e → σ.1 71 i = e.1 ∧ σ.2.1 72 i = e.2.1) ∧ (∀ f q, D[f]? = some q → σ.1 65 f = nI q.2.1.length ∧ σ.1 67 f = nI (stD D f) ∧ σ.1 66 f = nI q.2.2.1 ∧ ∀ k a, q.2.1[k]? = some a → σ.1 70 (4 * f + k) = nI a.2.2) ∧ σ.1 62 0 = nI D.length
theorem KPc_of {t : Nat → UInt8} {D : List FD} {σ : fkS} (h : KPx t D (rnS swP σ)) : KPc t D σ := by
  obtain ⟨⟨h1, h2, h3⟩, h4, h5⟩ := h
  refine ⟨⟨h1, h2, fun i e he => ⟨(h3 i e he).1, (h3 i e he).2.1⟩⟩, fun f q hq => ?_, h5⟩
  obtain ⟨-, -, a3, a4, a5, -, a7⟩ := h4 f q hq
  exact ⟨a3, a5, a4, fun k a ha => (a7 k a ha).2.2⟩
/-- how a RUN leaves the class -/
def XRs (σ : fkS) (r : rR) (σ' : fkS) : Prop := σ'.2.2 = (sR σ 98 0 63).2.2 ∧ Fr fkXC (sR σ 98 0 63) σ' ∧ XH r.1 σ' ∧ (∀ x, r.2 = .ok [x] → σ'.1 98 12 = 0 ∧ σ'.1 98 13 = x) ∧ (∀ x, r.2 = .error x → σ'.1 98 12 = nI x ∧ σ'.1 98 13 = 0 ∧ 1 ≤ x ∧ x ≤ 4)
theorem ex_nI (v : Int32) : ∃ p, v = nI p := ⟨v.toBitVec.toNat, by
  show v = Int32.ofNat v.toBitVec.toNat
  rw [Int32.ofNat_bitVecToNat, Int32.ofBitVec_toBitVec]⟩
section XSt
variable {t : Nat → UInt8} {n d f : Nat} {D : List FD} {σ0 σ : fkS} {s : rwS} {Q : Option Value → fkS → Prop}
theorem lx_end {x : Int32} {p v : Nat} (hr : σ0.2.2 98 0 = 63) (h : XM σ0 [x] [] s p σ) (q : ∀ σ1, XM σ0 [] [] s p σ1 → Q none (sI σ1 98 13 x)) : LX d v Q σ := by
  have r0 : σ.2.2 98 0 = 63 := by rw [h.2.2.2.2.2.1]; exact hr
  have h12 := h.2.2.2.2.1
  have h6 : σ.1 98 6 ≤ 0 := by rw [h.2.1.1]; decide
  have pp : Di (d + 3) 229 [.ref 98] σ (fun x2 σ1 => Q none (sI (sW σ1 σ) 98 13 x2)) := by
    refine yI rfl (rx_pop h) fun y σ1 ⟨hy, h1⟩ w1 => ?_
    subst hy
    rw [w1]
    exact q σ1 h1
  unfold LX
  exact S_Runner_start_83 (d := d + 3) r0 ⟨fun _ => ⟨fun y => absurd h12 y, fun _ => pp⟩, fun _ => ⟨fun _ => ⟨fun y => absurd h12 y, fun _ => pp⟩, fun y => absurd h6 y⟩⟩
def agW (g : Nat → Int64) (k : Nat) : List Int32 := (List.range k).map fun i => (g i).toInt32
theorem agW_s (g : Nat → Int64) (k : Nat) : (agW g (k + 1)).reverse = (g k).toInt32 :: (agW g k).reverse := by
  unfold agW
  rw [List.range_succ, List.map_append, List.reverse_append]
  rfl
theorem agW_l (g : Nat → Int64) (k : Nat) : (agW g k).length = k := by
  unfold agW
  rw [List.length_map, List.length_range]
theorem w_38 {tk p0 : Nat} (h63 : σ0.2.2 98 0 = 63) (hf : f < 20) (h65 : σ0.1 65 f = nI tk) (h4 : tk ≤ 4) (fin : ∀ σ, XM σ0 (agW (σ0.2.1 2) tk).reverse [] ([], 0, 0) p0 σ → Dv (d + 3) 226 [.ref 98, .int (nI f), .int (0 : Int32)] σ (fun σ1 => LX d 0 Q σ1)) : ∀ m j σ, j + m = tk → XM σ0 (agW (σ0.2.1 2) j).reverse [] ([], 0, 0) p0 σ → Wq 224 (d + 4) 38 [some (.ref 98), none, some (.int (nI f)), some (.ref 2), some (.int (nI j))] [] σ Q := by
  intro m
  induction m with
  | zero =>
    intro j σ hj h
    have : j = tk := hj
    subst this
    have r0 : σ.2.2 98 0 = 63 := by rw [h.2.2.2.2.2.1]; exact h63
    have e65 : σ.1 65 f = nI j := (h.2.2.2.2.2.2 65 f rfl).1.trans h65
    refine S_Runner_start_38 (d := d + 3) r0 ?_
    rw [show (nI f).toNatClampNeg = f from nI_clamp (by omega), e65]
    refine ⟨by decide, vp_in_nI hf (by decide), fun _ => ?_, fun y => absurd (Int32.le_refl _) y⟩
    refine yV rfl (fin σ h) fun σ1 h1 w1 => ?_
    rw [w1]
    exact h1
  | succ m ih =>
    intro j σ hj h
    have r0 : σ.2.2 98 0 = 63 := by rw [h.2.2.2.2.2.1]; exact h63
    have e65 : σ.1 65 f = nI tk := (h.2.2.2.2.2.2 65 f rfl).1.trans h65
    have e2 : σ.2.1 2 j = σ0.2.1 2 j := (h.2.2.2.2.2.2 2 j rfl).2.1
    refine S_Runner_start_38 (d := d + 3) r0 ?_
    rw [show (nI f).toNatClampNeg = f from nI_clamp (by omega), e65, show (nI j).toNatClampNeg = j from nI_clamp (by omega), e2, (nI_succ j).symm]
    refine ⟨by decide, vp_in_nI hf (by decide), fun y => absurd y (nI_ge (by omega) (by omega)), fun _ => ⟨fun y => absurd y (nI_ge (a := j) (b := 8) (by omega) (by decide)), fun _ => ⟨vp_in_nI (by omega) (by decide), ?_⟩⟩⟩
    refine yV rfl (rx_push h (by rw [List.length_reverse, agW_l]; omega)) fun σ1 h1 w1 => ?_
    rw [w1]
    refine ih (j + 1) σ1 (by omega) ?_
    rw [agW_s]
    exact h1
/-- the class's RUN -/
theorem c_start (hJ : okJ t n D) (hP : KPc t D σ) (hf : f < D.length) (hty : ∀ k, k < tkD D f → tyD D f k = 1) (q : ∀ σ', XRs σ (rRun t D f (agW (σ.2.1 2) (tkD D f))) σ' → Q none σ') : Cl (d + 4) 224 [.ref 98, .ref 62, .int (nI f), .ref 2] σ Q := by
  obtain ⟨⟨p1, p2, p3⟩, p4, p5⟩ := hP
  have hC : XC (sR σ 98 0 63) (cGd t D D 0) := ⟨sR_ss, p1, p2, p3⟩
  have hR1 : ∀ f q, D[f]? = some q → (sR σ 98 0 63).1 65 f = nI q.2.1.length ∧ (sR σ 98 0 63).1 67 f = nI (stD D f) := fun f q hq => ⟨(p4 f q hq).1, (p4 f q hq).2.1⟩
  have hq : D[f]? = some D[f] := List.getElem?_eq_getElem hf
  generalize D[f] = fd at hq
  have f20 : f < 20 := by have := hJ.1; omega
  have t4 := hJ.t4 f
  have e65 : (sR σ 98 0 63).1 65 f = nI (tkD D f) := by rw [(rBd_at hq).2.2.1]; exact (p4 f fd hq).1
  have hcall := ex_call (d := d) hJ hC hR1 60 [] rfl
  have r63 : (sR σ 98 0 63).2.2 98 0 = 63 := sR_ss
  have hs : stO (([], 0, 0) : rwS) := ⟨by decide, fun i q hq => by simp at hq⟩
  have hv : vsP D f 0 (tkD D f) 0 (agW (σ.2.1 2) (tkD D f)) := by
    refine ⟨agW_l _ _, fun j v hj => Or.inl ?_⟩
    have hj1 := (List.getElem?_eq_some_iff.mp hj).1
    rw [agW_l] at hj1
    rw [Nat.zero_add]
    exact hty j hj1
  refine S_Runner_start (d := d + 3) ?_
  have f0 : Fr (fun c j => Nat.beq c 98 && (Nat.beq j 4 || Nat.beq j 6 || Nat.beq j 9 || Nat.beq j 10 || Nat.beq j 11 || Nat.beq j 12)) (sR σ 98 0 63) (sI (sI (sI (sI (sI (sI (sR σ 98 0 63) 98 4 (0 : Int32)) 98 6 (0 : Int32)) 98 9 (0 : Int32)) 98 10 (0 : Int32)) 98 11 (0 : Int32)) 98 12 (0 : Int32)) := (((((Fr.rf.sI rfl).sI rfl).sI rfl).sI rfl).sI rfl).sI rfl
  have h0 : ∃ p0, XM (sR σ 98 0 63) [] [] ([], 0, 0) p0 (sI (sI (sI (sI (sI (sI (sR σ 98 0 63) 98 4 (0 : Int32)) 98 6 (0 : Int32)) 98 9 (0 : Int32)) 98 10 (0 : Int32)) 98 11 (0 : Int32)) 98 12 (0 : Int32)) := by
    obtain ⟨p0, e8⟩ := ex_nI ((sI (sI (sI (sI (sI (sI (sR σ 98 0 63) 98 4 (0 : Int32)) 98 6 (0 : Int32)) 98 9 (0 : Int32)) 98 10 (0 : Int32)) 98 11 (0 : Int32)) 98 12 (0 : Int32)).1 98 8)
    refine ⟨p0, ⟨?_, Nat.zero_le _, fun i v h => by simp at h⟩, ⟨?_, Nat.zero_le _, (fun i q hq => by simp at hq), fun z => absurd rfl z, fun q hq => by cases hq⟩, ⟨?_, Nat.zero_le _, (fun i q hq => by simp at hq), ?_, Nat.zero_le _, ?_, Nat.zero_le _⟩, e8, sI_ss, rfl, f0.mono fun c j q => ?_⟩
    · exact (sI_so (by decide)).trans ((sI_so (by decide)).trans ((sI_so (by decide)).trans ((sI_so (by decide)).trans ((sI_so (by decide)).trans sI_ss))))
    · exact (sI_so (by decide)).trans ((sI_so (by decide)).trans ((sI_so (by decide)).trans ((sI_so (by decide)).trans sI_ss)))
    · exact (sI_so (by decide)).trans ((sI_so (by decide)).trans ((sI_so (by decide)).trans sI_ss))
    · exact (sI_so (by decide)).trans ((sI_so (by decide)).trans sI_ss)
    · exact (sI_so (by decide)).trans sI_ss
    · unfold fkXC
      simp only [Bool.or_eq_true, Bool.and_eq_true, Nat.beq_eq, Nat.ble_eq] at q ⊢
      omega
  obtain ⟨p0, h0⟩ := h0
  refine w_38 (σ0 := sR σ 98 0 63) (tk := tkD D f) (p0 := p0) r63 f20 e65 t4 (fun σ1 h1 => ?_) (tkD D f) 0 _ (Nat.zero_add _) h0
  refine hcall f (agW (σ.2.1 2) (tkD D f)) [] ([], 0, 0) 0 p0 0 40000000 Q σ1 (d + 2) hf hv hs (by decide) (by decide) (by rw [List.append_nil]; exact h1) (by decide) (by decide) ?_
  have T1 := rCl_ty hJ.1 hJ.2.1 hJ.2.2 60 f (agW (σ.2.1 2) (tkD D f)) ([], 0, 0) hf hv hs
  have q' : ∀ σ', XRs σ (rCl t D 60 f (agW (σ.2.1 2) (tkD D f)) ([], 0, 0)) σ' → Q none σ' := q
  generalize rCl t D 60 f (agW (σ.2.1 2) (tkD D f)) ([], 0, 0) = r at T1 q' ⊢
  obtain ⟨s1, x | us⟩ := r
  · intro σ' h' x1 x4
    have f1 : Fr (fun c j => Nat.beq c 98 && Nat.beq j 13) σ' (sI σ' 98 13 (0 : Int32)) := Fr.rf.sI rfl
    exact q' _ ⟨h'.2.2.1, h'.2.2.2.tr (Fr.rf.sI rfl), h'.1.fr f1 rfl rfl rfl (fun _ => rfl) (fun _ => rfl), (fun y hy => by cases hy), fun y hy => by cases hy; exact ⟨(f1 98 12 rfl).1.trans h'.2.1, sI_ss, x1, x4⟩⟩
  · obtain ⟨-, -, w, rfl, -⟩ := ev_v1 T1 rfl
    intro σ' v h' _
    refine lx_end r63 h' fun σ2 h2 => ?_
    have f1 : Fr (fun c j => Nat.beq c 98 && Nat.beq j 13) σ2 (sI σ2 98 13 w) := Fr.rf.sI rfl
    exact q' _ ⟨h2.2.2.2.2.2.1, h2.2.2.2.2.2.2.tr (Fr.rf.sI rfl), h2.2.2.1.fr f1 rfl rfl rfl (fun _ => rfl) (fun _ => rfl), (fun y hy => by cases hy; exact ⟨(f1 98 12 rfl).1.trans h2.2.2.2.2.1, sI_ss⟩), fun y hy => by cases hy⟩
/-- may it be called from outside: INTS alone -/
def okC (D : List FD) (a : Int32) : Prop := ∃ f q, a = nI f ∧ D[f]? = some q ∧ q.2.2.1 = 1 ∧ ∀ x ∈ q.2.1, x.2.2 = 1
/-- the rows that tell it -/
def KPt (D : List FD) (σ : fkS) : Prop := (∀ f q, D[f]? = some q → σ.1 65 f = nI q.2.1.length ∧ σ.1 66 f = nI q.2.2.1 ∧ ∀ k a, q.2.1[k]? = some a → σ.1 70 (4 * f + k) = nI a.2.2) ∧ σ.1 62 0 = nI D.length ∧ D.length ≤ 20 ∧ ∀ q ∈ D, q.2.1.length ≤ 4 ∧ q.2.2.1 ≤ 3 ∧ ∀ a ∈ q.2.1, a.2.2 ≤ 3
theorem nI_inj2 {a b : Nat} (ha : a < 2 ^ 31) (hb : b < 2 ^ 31) (h : nI a = nI b) : a = b := by
  have := congrArg Int32.toInt h
  rw [nI_toInt ha, nI_toInt hb] at this
  omega
theorem w_t26 {q : FD} (hP : KPt D σ) (hq : D[f]? = some q) (hg : q.2.2.1 = 1) (q1 : okC D (nI f) → Q (some (.int (1 : Int32))) σ) (q0 : ¬ okC D (nI f) → Q (some (.int (0 : Int32))) σ) : ∀ (R P : List AD), q.2.1 = P ++ R → (∀ x ∈ P, x.2.2 = 1) → Wq 218 d 26 [some (.ref 62), some (.int (nI f)), some (.int (nI P.length))] [] σ Q := by
  obtain ⟨p1, p2, p3, p4⟩ := hP
  obtain ⟨r1, r2, r3⟩ := p1 f q hq
  obtain ⟨l1, -, l3⟩ := p4 q (List.mem_of_getElem? hq)
  have fl := (List.getElem?_eq_some_iff.mp hq).1
  have cf : (nI f).toNatClampNeg = f := nI_clamp (by omega)
  have vf : vp_in (nI f) 20 := vp_in_nI (by omega) (by decide)
  intro R
  induction R with
  | nil =>
    intro P hP hone
    rw [List.append_nil] at hP
    refine S_Program_takesAndGivesInt_26 ?_
    rw [cf, r1, hP]
    exact ⟨vf, fun _ => q1 ⟨f, q, rfl, hq, hg, by rw [hP]; exact hone⟩, fun y => absurd (Int32.le_refl _) y⟩
  | cons a R ih =>
    intro P hP hone
    have el : q.2.1.length = P.length + (R.length + 1) := by rw [hP, List.length_append, List.length_cons]
    have ha : q.2.1[P.length]? = some a := by rw [hP]; exact mid_a
    have am := l3 a (List.mem_of_getElem? ha)
    have e1 : ((4 : Int32) * nI f) + nI P.length = nI (4 * f + P.length) := by rw [show (4 : Int32) = nI 4 from rfl, nI_mul, nI_add]
    have c1 : (nI (4 * f + P.length)).toNatClampNeg = 4 * f + P.length := nI_clamp (by omega)
    refine S_Program_takesAndGivesInt_26 ?_
    rw [cf, r1, e1, c1, r3 _ a ha, (nI_succ P.length).symm]
    refine ⟨vf, fun y => absurd y (nI_ge (by omega) (by omega)), fun _ => ⟨vp_in_nI (by omega) (by decide), fun y => ?_, fun y => q0 fun ⟨f2, q2, e2, hq2, hg2, h2⟩ => ?_⟩⟩
    · have a1 : a.2.2 = 1 := nI_inj2 (b := 1) (by omega) (by decide) y
      have := ih (P ++ [a]) (by rw [hP, List.append_assoc]; rfl) (fun x hx => by
        rcases List.mem_append.mp hx with hx | hx
        · exact hone x hx
        · rw [List.mem_singleton.mp hx]
          exact a1)
      rw [List.length_append] at this
      exact this
    · have f2l := (List.getElem?_eq_some_iff.mp hq2).1
      have : f = f2 := nI_inj2 (by omega) (by omega) e2
      subst this
      rw [hq] at hq2
      cases hq2
      exact y (by rw [h2 a (List.mem_of_getElem? ha)]; rfl)
theorem c_takes (hP : KPt D σ) (a : Int32) : Di d 218 [.ref 62, .int a] σ (fun x σ' => σ' = σ ∧ ((x = 1 ∧ okC D a) ∨ (x = 0 ∧ ¬ okC D a))) := by
  have hP' := hP
  obtain ⟨p1, p2, p3, p4⟩ := hP
  have out : (∀ f q, a = nI f → D[f]? = some q → False) → ¬ okC D a := fun h ⟨f, q, e, hq, _⟩ => h f q e hq
  refine S_Program_takesAndGivesInt ⟨fun y => ⟨rfl, rfl, Or.inr ⟨rfl, out fun f q e hq => ?_⟩⟩, fun y => ⟨fun y2 => ⟨rfl, rfl, Or.inr ⟨rfl, out fun f q e hq => ?_⟩⟩, fun y2 => ?_⟩⟩
  · subst e
    have := (List.getElem?_eq_some_iff.mp hq).1
    exact nI_pos (by omega) y
  · subst e
    have := (List.getElem?_eq_some_iff.mp hq).1
    rw [p2] at y2
    exact nI_ge this (by omega) y2
  · obtain ⟨f, hf, rfl⟩ := nI_of y
    have fl : f < D.length := by
      rcases Nat.lt_or_ge f D.length with c | c
      · exact c
      · rw [p2] at y2
        exact absurd (nI_le c hf) y2
    have hq : D[f]? = some D[f] := List.getElem?_eq_getElem fl
    generalize D[f] = q at hq
    obtain ⟨r1, r2, r3⟩ := p1 f q hq
    have g3 := (p4 q (List.mem_of_getElem? hq)).2.1
    have no : ∀ f2 q2, nI f = nI f2 → D[f2]? = some q2 → q2 = q := fun f2 q2 e hq2 => by
      have := (List.getElem?_eq_some_iff.mp hq2).1
      have e3 : f = f2 := nI_inj2 (by omega) (by omega) e
      subst e3
      rw [hq] at hq2
      exact (Option.some.inj hq2).symm
    rw [show (nI f).toNatClampNeg = f from nI_clamp hf, r2]
    refine ⟨vp_in_nI (by omega) (by decide), fun y3 => ?_, fun y3 => ⟨rfl, rfl, Or.inr ⟨rfl, fun ⟨f2, q2, e, hq2, hg2, _⟩ => ?_⟩⟩⟩
    · exact w_t26 hP' hq (nI_inj2 (b := 1) (by omega) (by decide) y3) (fun h => ⟨rfl, rfl, Or.inl ⟨rfl, h⟩⟩) (fun h => ⟨rfl, rfl, Or.inr ⟨rfl, h⟩⟩) q.2.1 [] rfl (fun x hx => by cases hx)
    · rw [no f2 q2 e hq2] at hg2
      exact y3 (by rw [hg2]; rfl)
end XSt
