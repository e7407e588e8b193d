/-! THE REFERENCE runs: CALLS, all of it -/
section YR0
variable {t : Nat → UInt8} {n d : Nat} {D : List FD} {σ0 σ : fkS}
theorem YL_ag {f : Nat} : ∀ (As : List AD) (v : List Int32) (k j : Nat) (pe : List pE1) (ev : List (List Nat × Int32)) (e0 : List (List Nat × Nat)) (L : List Int32), v.length = As.length → (∀ (i : Nat) (a : AD), As[i]? = some a → tyD D f (k + i) = a.2.2) → YL L (ety t pe) ev e0 → YL ((rvS D f k v).reverse ++ L) (ety t (agP As j pe)) (rAr t As v ev) (agZ t As e0)
  | [], [], k, j, pe, ev, e0, L, _, _, h => h
  | [], y :: v, k, j, pe, ev, e0, L, hl, _, _ => by cases hl
  | a :: As, [], k, j, pe, ev, e0, L, hl, _, _ => by cases hl
  | a :: As, y :: v, k, j, pe, ev, e0, L, hl, ht, h => by
    have e1 : tyD D f k = a.2.2 := ht 0 a rfl
    have h2 : YL (rv (tyD D f k) y :: L) (ety t (((a.1, a.2.1), j, a.2.2) :: pe)) ((nmT t a.1 a.2.1, y) :: ev) ((nmT t a.1 a.2.1, 0) :: e0) := by
      rw [ety_c, e1]
      exact h.cons
    have := YL_ag As v (k + 1) (j + 1) _ _ _ _ (by simpa using hl) (fun i b hb => by
      rw [show k + 1 + i = k + (i + 1) by omega]
      exact ht (i + 1) b hb) h2
    have eA : (rvS D f (k + 1) v).reverse ++ (rv (tyD D f k) y :: L) = (rvS D f k (y :: v)).reverse ++ L := by
      show _ = (rv (tyD D f k) y :: rvS D f (k + 1) v).reverse ++ L
      rw [List.reverse_cons, List.append_assoc]
      rfl
    rw [eA] at this
    exact this
theorem YL_at {f : Nat} {q : FD} {v : List Int32} (hq : D[f]? = some q) (hl : v.length = q.2.1.length) : YL (rvS D f 0 v).reverse (ety t (agP q.2.1 0 [])) (rAr t q.2.1 v []) (agZ t q.2.1 []) := by
  have := YL_ag (t := t) (D := D) (f := f) q.2.1 v 0 0 [] [] [] [] hl (fun i a ha => by
    unfold tyD
    rw [hq, Nat.zero_add]
    show (match q.2.1[i]? with
      | some a => a.2.2
      | none => 0) = a.2.2
    rw [ha]) ⟨rfl, rfl, fun x => rfl, fun x i y hi => by cases hi⟩
  rw [List.append_nil] at this
  exact this
theorem rvS_len {f : Nat} : ∀ (v : List Int32) (k : Nat), (rvS D f k v).length = v.length
  | [], _ => rfl
  | y :: v, k => congrArg (· + 1) (rvS_len v (k + 1))
theorem tgD_mid {q : FD} {Z : List FD} : ∀ (P : List FD) (p : Nat), tgD t D (P ++ q :: Z) p = tgD t D P p ++ (tgT t D q.2.2.2.2 (p + lnTD P) (agZ t q.2.1 []) ++ (11, 0, 0) :: tgD t D Z (p + lnTD P + lnT q.2.2.2.2 + 1))
  | [], p => rfl
  | x :: P, p => by
    show tgT t D x.2.2.2.2 p (agZ t x.2.1 []) ++ (11, 0, 0) :: tgD t D (P ++ q :: Z) (p + lnT x.2.2.2.2 + 1) = (tgT t D x.2.2.2.2 p (agZ t x.2.1 []) ++ (11, 0, 0) :: tgD t D P (p + lnT x.2.2.2.2 + 1)) ++ _
    rw [tgD_mid P, show p + lnTD (x :: P) = p + lnT x.2.2.2.2 + 1 + lnTD P by show p + (lnT x.2.2.2.2 + 1 + lnTD P) = _; omega, List.append_assoc, List.cons_append]
/-- where FUNCTION f begins -/
def stT (D : List FD) (f : Nat) : Nat := lnTD (D.take f)
theorem D_mid {f : Nat} {q : FD} (hq : D[f]? = some q) : ∃ P Z, D = P ++ q :: Z ∧ P.length = f ∧ P = D.take f := by
  obtain ⟨hf, e⟩ := List.getElem?_eq_some_iff.mp hq
  refine ⟨D.take f, D.drop (f + 1), ?_, by rw [List.length_take]; omega, rfl⟩
  rw [← e, ← List.drop_eq_getElem_cons hf, List.take_append_drop]
theorem tgD_at {f : Nat} {q : FD} (hq : D[f]? = some q) : CA (tgD t D D 0) (stT D f) (tgT t D q.2.2.2.2 (stT D f) (agZ t q.2.1 []) ++ [(11, 0, 0)]) := by
  obtain ⟨P, Z, hD, hP, hP2⟩ := D_mid hq
  have e : stT D f = lnTD P := by
    unfold stT
    rw [hP2]
  rw [e]
  have h1 : tgD t D D 0 = tgD t D P 0 ++ ((tgT t D q.2.2.2.2 (lnTD P) (agZ t q.2.1 []) ++ [(11, 0, 0)]) ++ tgD t D Z (lnTD P + lnT q.2.2.2.2 + 1)) := by
    have := tgD_mid (t := t) (D := D) (q := q) (Z := Z) P 0
    rw [← hD, Nat.zero_add] at this
    rw [this, List.append_assoc (tgT t D q.2.2.2.2 (lnTD P) (agZ t q.2.1 []))]
    rfl
  rw [h1]
  exact (CA.mid (by rw [tgD_len])).l
/-- the rows of FUNCTIONS -/
def TR2 (D : List FD) (σ : fkS) : Prop := ∀ f q, D[f]? = some q → σ.1 183 f = nI (stT D f) ∧ σ.1 184 f = nI q.2.1.length ∧ σ.1 185 f = nI (inZq q)
theorem TR2_of (h : TP D σ) : TR2 D σ := fun f q hq => by
  obtain ⟨P, Z, hD, hP, hP2⟩ := D_mid hq
  have := h P q Z hD
  rw [hP] at this
  have e : stT D f = lnTD P := by
    unfold stT
    rw [hP2]
  rw [e]
  exact this
theorem okJ.nd (h : okJ t n D) {f : Nat} {q : FD} (hq : D[f]? = some q) : nD q.2.2.2.2 ≤ 60 := (h.2.1 q (List.mem_of_getElem? hq)).2.2.2.2.2.2.2.1
/-- CALLS, so many of them left -/
theorem ex_callM (hJ : okJ t n D) (hC : TCd σ0 (tgD t D D 0)) (hR1 : TR2 D σ0) : ∀ (K : Nat) (F : List (Int32 × List Int32)), F.length + K = 60 → CLY d σ0 F K D (rCl t D K) := by
  intro K
  induction K with
  | zero =>
    intro F hF f vs A s p Q σ dd hf hv hs hA hx hK
    have hq : D[f]? = some D[f] := List.getElem?_eq_getElem hf
    generalize D[f] = q at hq
    obtain ⟨r1, r2, -⟩ := hR1 f q hq
    have hl : vs.length = q.2.1.length := hv.1.trans (rBd_at hq).2.2.1
    have t4 := hJ.t4 f
    rw [(rBd_at hq).2.2.1] at t4
    refine (m_begins (d := dd) (R := rvS D f 0 vs) r1 r2 (by have := hJ.1; omega) t4 (by rw [rvS_len, hl]) hx).mono fun u σ9 hy => ?_
    obtain ⟨rfl, h9⟩ := Qv_s hy
    rcases h9 with ⟨c, -⟩ | ⟨-, h9⟩ | ⟨c, -⟩
    · omega
    · exact (show kYb d Q σ0 s 3 from hK) σ9 h9 (by decide) (by decide)
    · omega
  | succ K ih =>
    intro F hF f vs A s p Q σ dd hf hv hs hA hx hK
    have hq : D[f]? = some D[f] := List.getElem?_eq_getElem hf
    generalize D[f] = q at hq
    obtain ⟨r1, r2, -⟩ := hR1 f q hq
    obtain ⟨b1, b2, b3, b4⟩ := rBd_at hq
    have hl : vs.length = q.2.1.length := hv.1.trans b3
    have t4 := hJ.t4 f
    rw [b3] at t4
    obtain ⟨o, ck, hr⟩ := hJ.bd hq
    have hn := hJ.nd hq
    have hA1 := tgD_at (t := t) (D := D) hq
    have hA2 := hA1.r (q := stT D f + lnT q.2.2.2.2) (by rw [tg_len])
    refine (m_begins (d := dd) (R := rvS D f 0 vs) r1 r2 (by have := hJ.1; omega) t4 (by rw [rvS_len, hl]) hx).mono fun u σ9 hy => ?_
    obtain ⟨rfl, h9⟩ := Qv_s hy
    have hK' : kRy d σ0 A F p Q (rv1 (gvD D f)) (if s.2.1 < 5000 then evT t D (rCl t D K) (rBd D f) none (rAr t (rAg D f) vs []) (s.1, s.2.1 + 1, max s.2.2 (60 - K)) else (s, .error 4)) := hK
    rw [b1, b2, b4] at hK'
    rcases h9 with ⟨c1, c2, h9⟩ | ⟨c1, -⟩ | ⟨c1, c2, h9⟩
    · rw [if_pos c2, show 60 - K = F.length + 1 by omega] at hK'
      have he := enO_at (t := t) hq hv
      have cK := rCl_ty hJ.1 hJ.2.1 hJ.2.2 K
      have hD := gdD_of hJ.1 hJ.2.1
      have T1 := (ev_ty hD cK _ _ _ _ _ _ _ (s.1, s.2.1 + 1, max s.2.2 (F.length + 1)) o ck he hs).1 rfl
      have hX : ∀ L', CLY d σ0 ((p, L') :: F) K D (rCl t D K) := fun L' => ih ((p, L') :: F) (by rw [List.length_cons]; omega)
      have X1 := (ex_allM hC hD hJ.t4 cK q.2.2.2.2 0 0 0 0 _ _ _ (s.1, s.2.1 + 1, max s.2.2 (F.length + 1)) A (rvS D f 0 vs).reverse (stT D f) o ck he hs (YL_at hq hl) (by rw [List.length_reverse, rvS_len, hl]; omega) ⟨hX _, hX⟩ hA1.l).1 rfl (by omega)
      have et : ckT t D q.2.2.2.2 (ety t (agP q.2.1 0 [])) = q.2.2.1 := by
        have hD1 : ∀ q ∈ D, 1 ≤ q.2.2.1 := fun q hq => (hD.2 q hq).1
        exact exQ_n (m2_none.mp (show m2 (ckF t D q.2.2.2.2 (ety t (agP q.2.1 0 []))) (exQ (ckT t D q.2.2.2.2 (ety t (agP q.2.1 0 []))) q.2.2.1 q.2.2.2.1) = none from jBd_mem hJ.2.2 (List.mem_of_getElem? hq))).2 ((ckT_n0 hD1 _ _ _ _ _ _ o ck he.n0).1 rfl) (by have := hD1 q (List.mem_of_getElem? hq); omega)
      rw [et] at X1 T1
      refine X1 σ9 Q h9 ?_
      generalize evT t D (rCl t D K) q.2.2.2.2 none (rAr t q.2.1 vs []) (s.1, s.2.1 + 1, max s.2.2 (F.length + 1)) = r at hK' T1 ⊢
      obtain ⟨s1, x | us⟩ := r
      · exact hK'
      · obtain ⟨-, -, w, rfl, -⟩ := ev_v1 T1 rfl
        intro σ1 hx1
        refine ly_step hx1 ((m1_give (d := d + 2) hC hA2.h hx1).mono fun u σ3 hy => ?_)
        obtain ⟨rfl, h3⟩ := Qv_s hy
        exact (show kYo d σ0 A F p Q (rv1 q.2.2.1) s1 [w] from hK') σ3 h3
    · omega
    · rw [if_neg c2] at hK'
      exact (show kYb d Q σ0 s 4 from hK') σ9 h9 (by decide) (by decide)
/-- the kept PROGRAM in the reference -/
def KPr (t : Nat → UInt8) (D : List FD) (σ : fkS) : Prop := TCd σ (tgD t D D 0) ∧ TR2 D σ ∧ σ.1 103 126 = nI D.length
def fkYQ (c j : Nat) : Bool := fkYC c j || (Nat.beq c 103 && (Nat.beq j 75 || Nat.beq j 76 || Nat.beq j 77 || Nat.ble 139 j && Nat.ble j 141))
/-- what the reference's RUN leaves -/
def YRs (σ : fkS) (r : rR) (σ' : fkS) : Prop := σ'.2.2 = σ.2.2 ∧ Fr fkYQ σ σ' ∧ σ'.1 103 77 = 0 ∧ σ'.1 103 139 = nI r.1.1.length ∧ σ'.1 103 140 = nI r.1.2.1 ∧ σ'.1 103 141 = nI r.1.2.2 ∧ (∀ x, r.2 = .ok [x] → σ'.1 103 76 = 0 ∧ σ'.2.1 103 75 = x.toInt64) ∧ (∀ x, r.2 = .error x → σ'.1 103 76 = nI x ∧ σ'.2.1 103 75 = 0)
end YR0
