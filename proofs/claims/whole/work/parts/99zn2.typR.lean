/-! A RUN: values keep their TYPES, all of it -/
/-- what DEFINITIONS tell is a TYPE -/
def gdD (D : List FD) : Prop := D.length ≤ 20 ∧ ∀ q ∈ D, 1 ≤ q.2.2.1 ∧ ∀ a ∈ q.2.1, 1 ≤ a.2.2
section TY2
variable {t : Nat → UInt8} {n : Nat} {D : List FD} {C : Nat → List Int32 → rwS → rR}
theorem tyD_n0 (hD : gdD D) {f d : Nat} (h : d < tkD D f) : tyD D f d ≠ 0 := by
  unfold tkD at h
  unfold tyD
  cases hq : D[f]? with
  | none => rw [hq] at h; exact absurd h (Nat.not_lt_zero d)
  | some q =>
    rw [hq] at h
    have h2 : d < q.2.1.length := h
    show (match q.2.1[d]? with
      | some a => a.2.2
      | none => 0) ≠ 0
    rw [List.getElem?_eq_getElem h2]
    have := ((hD.2 q (List.mem_of_getElem? hq)).2 _ (List.getElem_mem h2))
    show q.2.1[d].2.2 ≠ 0
    omega
theorem vsP.one {f : Nat} {m : Nat} {v : Int32} (h : acD D f) : vsP D f 0 (tkD D f) m [v] := by
  refine ⟨h.1.symm, fun j u hj => ?_⟩
  have hj1 := (List.getElem?_eq_some_iff.mp hj).1
  have e1 : [v].length = 1 := rfl
  have : j = 0 := by omega
  subst this
  rw [Nat.add_zero, h.2.1]
  exact Or.inl rfl
/-- all of it -/
theorem ev_ty (hD : gdD D) (hC : cO D C) : ∀ (T : Tr) (m a z k : Nat) (e : List (List Nat × Nat)) (ev : List (List Nat × Int32)) (s : rwS), okT t n T m a z k → ckF t D T e = none → enO D s.1.length e ev → stO s →
    (m = 0 → pO (v1P D (ckT t D T e)) s.1.length (evT t D C T none ev s)) ∧
    (m = 1 → ∀ f, fnI t D (nmT t a z) 0 = some f → k + cnt T ≤ tkD D f → pO (vsP D f k (cnt T)) s.1.length (evT t D C T none ev s)) ∧
    (m = 2 ∨ m = 3 → ∀ wb, exQ (ckU t D T e) (ckT t D T e) wb = none → ∀ w, (∀ q, w = some q → ∃ k, k ≤ s.1.length ∧ q.2 = nI k) → pO (v1P D (ckT t D T e)) s.1.length (evT t D C T w ev s)) := by
  have hD1 : ∀ q ∈ D, 1 ≤ q.2.2.1 := fun q hq => (hD.2 q hq).1
  have n0 : ∀ {T : Tr} {e : List (List Nat × Nat)} {ev : List (List Nat × Int32)} {m : Nat}, okT t n T 0 0 0 0 → ckF t D T e = none → enO D m e ev → ckT t D T e ≠ 0 := fun h1 h2 h3 => (ckT_n0 hD1 _ _ _ _ _ _ h1 h2 h3.n0).1 rfl
  refine tr_ind (fun m a z k e ev s h _ _ hs => ?_) (fun kd a b c d l r hl hr _ m a0 z0 k0 e ev s h hF he hs => ?_)
  · have : m = 1 := h
    subst this
    exact ⟨fun z => by omega, fun _ f _ _ => pO.v hs (Nat.le_refl _) ⟨rfl, fun j v hj => by cases hj⟩, fun z => by omega⟩
  · refine ⟨fun em => ?_, fun em => ?_, fun em => ?_⟩
    · subst em
      obtain ⟨k2, _, _, _, _, _, _, e2, hk⟩ := ok_k h
      have ek : kd = k2 := by cases e2; rfl
      have hk' : kd ≤ 12 := by omega
      rcases (show kd = 0 ∨ kd = 1 ∨ kd = 2 ∨ kd = 3 ∨ kd = 4 ∨ kd = 5 ∨ kd = 6 ∨ kd = 7 ∨ kd = 8 ∨ kd = 9 ∨ kd = 10 ∨ kd = 11 ∨ kd = 12 by omega) with rfl | rfl | rfl | rfl | rfl | rfl | rfl | rfl | rfl | rfl | rfl | rfl | rfl
      · rw [cT_0, ev_0]
        exact pO.v hs (Nat.le_refl _) ⟨_, rfl, Or.inl rfl⟩
      · obtain ⟨o1, o2, o3, o4, o5⟩ := ok_1.mp h
        rw [cF_1] at hF
        obtain ⟨f1, f2⟩ := m2_none.mp hF
        rw [cT_1, ev_1]
        exact ((hl _ _ _ _ _ _ _ o4 f1 he hs).1 rfl).b fun s1 vs h1 _ _ => pO.v h1 (Nat.le_refl _) ⟨_, rfl, Or.inl rfl⟩
      · rw [cF_2] at hF
        rw [cT_2, ev_2]
        cases hx : lk e (nmT t a b) with
        | none => rw [hx, if_pos rfl] at hF; cases hF
        | some v => exact pO.v hs (Nat.le_refl _) ⟨_, rfl, he.lkup hx⟩
      · obtain ⟨o1, o2, o3, o4, o5⟩ := ok_3.mp h
        rw [cF_3] at hF
        obtain ⟨f1, f2⟩ := m2_none.mp hF
        rw [cT_3, ev_3]
        cases hx : fnI t D (nmT t a b) 0 with
        | none => rw [hx] at f1; exact absurd f1 (by unfold tkO; simp)
        | some f =>
          rw [hx] at f1
          have ec : tkD D f = c := by
            by_cases g : tkD D f = c
            · exact g
            · have : tkO D a c (some f) = some a := if_neg g
              rw [this] at f1
              cases f1
          refine ((hl _ _ _ _ _ _ _ o4 f2 he hs).2.1 rfl f hx (by omega)).b fun s1 vs h1 _ hv => ?_
          rw [← o2, ← ec] at hv
          exact hC f vs s1 (fnI_lt hx).1 hv h1
      · obtain ⟨o1, o2, o3, o4⟩ := ok_4.mp h
        rw [cF_4] at hF
        rw [cT_4, ev_4]
        cases hx : fnI t D (nmT t a b) 0 with
        | none => rw [hx] at hF; exact absurd hF (by unfold acO; simp)
        | some f =>
          rw [hx] at hF
          have ec : acD D f := by
            by_cases g : acD D f
            · exact g
            · have : acO D a c (some f) = some c := if_neg g
              rw [this] at hF
              cases hF
          exact pO.v hs (Nat.le_refl _) ⟨_, rfl, Or.inr (Or.inr ⟨rfl, f, (fnI_lt hx).1, ec, rfl⟩)⟩
      · rw [cT_5, ev_5]
        exact pO.v hs (Nat.le_refl _) ⟨_, rfl, Or.inr (Or.inl ⟨rfl, 0, Nat.zero_le _, rfl⟩)⟩
      · obtain ⟨o1, o2, o3, o4⟩ := ok_6.mp h
        rw [cF_6] at hF
        obtain ⟨f1, f2⟩ := m2_none.mp hF
        obtain ⟨f3, f4⟩ := m2_none.mp f1
        obtain ⟨f5, f6⟩ := m2_none.mp f2
        rw [cT_6, ev_6]
        refine ((hl _ _ _ _ _ _ _ o3 f3 he hs).1 rfl).b fun s1 vs h1 g1 _ => ((hr _ _ _ _ _ _ _ o4 f5 (he.up g1) h1).1 rfl).b fun s2 us h2 g2 hu => ?_
        obtain ⟨u, rfl, hu⟩ := hu
        rw [exQ_n f6 (n0 o4 f5 he) (by decide)] at hu
        exact pO.cons h2 hu
      · obtain ⟨o1, o2, o3, o4⟩ := ok_7.mp h
        rw [cF_7] at hF
        obtain ⟨f1, f2⟩ := m2_none.mp hF
        obtain ⟨f3, f4⟩ := m2_none.mp f1
        obtain ⟨f5, f6⟩ := m2_none.mp f2
        rw [cT_7, ev_7]
        refine ((hl _ _ _ _ _ _ _ o3 f3 he hs).1 rfl).b fun s1 vs h1 g1 hv => ((hr _ _ _ _ _ _ _ o4 f5 (he.up g1) h1).1 rfl).b fun s2 us h2 g2 hu => ?_
        obtain ⟨v, rfl, hv⟩ := hv
        obtain ⟨u, rfl, hu⟩ := hu
        rw [exQ_n f4 (n0 o3 f3 he) (by decide)] at hv
        rcases hv with hv | ⟨hv, -⟩ | ⟨-, f, hf, ha, rfl⟩
        · omega
        · omega
        · have ef : (nI f).toNatClampNeg = f := nI_clamp (by have := hD.1; omega)
          have := hC f [u] s2 hf (vsP.one ha) h2
          rw [ha.2.2] at this
          show pO (v1P D 1) s2.1.length (C (nI f).toNatClampNeg [u] s2)
          rw [ef]
          exact this
      · obtain ⟨o1, o2, o3⟩ := ok_8.mp h
        rw [cF_8] at hF
        obtain ⟨f1, f2⟩ := m2_none.mp hF
        rw [cT_8, ev_8]
        refine ((hl _ _ _ _ _ _ _ o2 f1 he hs).1 rfl).b fun s1 vs h1 g1 hv => ?_
        obtain ⟨v, rfl, hv⟩ := hv
        exact (hr _ _ _ _ _ ((nmT t a b, v) :: ev) s1 o3 f2 ⟨rfl, hv, he.up g1⟩ h1).1 rfl
      · obtain ⟨o1, o2, o3, o4⟩ := ok_9.mp h
        rw [cF_9] at hF
        obtain ⟨f1, f2⟩ := m2_none.mp hF
        obtain ⟨f3, f4⟩ := m2_none.mp f1
        obtain ⟨f5, f6⟩ := m2_none.mp f2
        rw [cT_9, ev_9]
        refine ((hl _ _ _ _ _ _ _ o3 f3 he hs).1 rfl).b fun s1 vs h1 g1 hv => ?_
        refine (hr _ _ _ _ _ _ _ o4 f5 (he.up g1) h1).2.2 (Or.inl rfl) b f6 _ fun q hq => ⟨0, Nat.zero_le _, ?_⟩
        by_cases g : rH vs = 0
        · rw [if_pos g] at hq; cases hq; rfl
        · rw [if_neg g] at hq; cases hq
      · obtain ⟨o1, o2, o3, o4⟩ := ok_10.mp h
        rw [cF_10] at hF
        obtain ⟨f1, f2⟩ := m2_none.mp hF
        obtain ⟨f3, f4⟩ := m2_none.mp f1
        obtain ⟨f5, f6⟩ := m2_none.mp f2
        rw [cT_10, ev_10]
        refine ((hl _ _ _ _ _ _ _ o3 f3 he hs).1 rfl).b fun s1 vs h1 g1 hv => ?_
        exact (hr _ _ _ _ _ _ _ o4 f5 (he.up g1) h1).2.2 (Or.inr rfl) b f6 _ fun q hq => rPr_ty h1 hq
      · obtain ⟨o1, o2, o5, o3, o4⟩ := ok_11.mp h
        rw [cF_11] at hF
        obtain ⟨f1, f2⟩ := m2_none.mp hF
        rw [cT_11, ev_11]
        exact ((hl _ _ _ _ _ _ _ o3 (m2_none.mp f1).1 he hs).1 rfl).b fun s1 vs h1 g1 _ => ((hr _ _ _ _ _ _ _ o4 (m2_none.mp f2).1 (he.up g1) h1).1 rfl).b fun s2 us h2 g2 hu => pO.o2 h2
      · obtain ⟨o1, o2, o5, o3, o4, o6⟩ := ok_12.mp h
        rw [cF_12] at hF
        obtain ⟨f1, f2⟩ := m2_none.mp hF
        rw [cT_12, ev_12]
        exact ((hl _ _ _ _ _ _ _ o3 (m2_none.mp f1).1 he hs).1 rfl).b fun s1 vs h1 g1 _ => ((hr _ _ _ _ _ _ _ o4 (m2_none.mp f2).1 (he.up g1) h1).1 rfl).b fun s2 us h2 g2 hu => pO.o2 h2
    · subst em
      obtain ⟨rfl, ha, hz, -, hd, o3, o4⟩ := ok_21.mp h
      subst ha
      subst hz
      subst hd
      intro f hf hk
      have hk2 : d + (1 + cnt r) ≤ tkD D f := hk
      rw [cF_21] at hF
      obtain ⟨f1, f2⟩ := m2_none.mp hF
      obtain ⟨f3, f4⟩ := m2_none.mp f1
      have ey : atD t D (nmT t a b) d = tyD D f d := by
        unfold atD
        rw [hf]
        rfl
      rw [ey] at f4
      have et := exQ_n f4 (n0 o3 f3 he) (tyD_n0 hD (by omega))
      rw [ev_21]
      refine ((hl _ _ _ _ _ _ _ o3 f3 he hs).1 rfl).b fun s1 vs h1 g1 hv => ((hr _ _ _ _ _ _ _ o4 f2 (he.up g1) h1).2.1 rfl f hf (by omega)).b fun s2 us h2 g2 hu => ?_
      obtain ⟨v, rfl, hv⟩ := hv
      rw [et] at hv
      refine pO.v h2 (Nat.le_refl _) ⟨?_, fun j x hj => ?_⟩
      · show us.length + 1 = 1 + cnt r
        rw [hu.1, Nat.add_comm]
      · cases j with
        | zero =>
          have : x = v := (Option.some.inj hj).symm
          subst this
          exact hv.up g2
        | succ j =>
          rw [show d + (j + 1) = d + 1 + j by omega]
          exact hu.2 j x hj
    · rcases em with rfl | rfl
      · obtain ⟨rfl, o3, o4⟩ := ok_20.mp h
        rw [cF_20] at hF
        obtain ⟨f1, f2⟩ := m2_none.mp hF
        intro wb hq w hw
        rw [cT_20, cU_20] at hq
        rw [cT_20]
        cases w with
        | none => rw [ev_20n]; exact (hl _ _ _ _ _ _ _ o3 f1 he hs).1 rfl
        | some q =>
          rw [ev_20s, ← exQ_n hq (n0 o4 f2 he) (n0 o3 f1 he)]
          exact (hr _ _ _ _ _ _ _ o4 f2 he hs).1 rfl
      · obtain ⟨rfl, -, -, o3, o4⟩ := ok_22.mp h
        rw [cF_22] at hF
        obtain ⟨f1, f2⟩ := m2_none.mp hF
        intro wb hq w hw
        rw [cT_22, cU_22] at hq
        rw [cT_22]
        cases w with
        | none => rw [ev_22n]; exact (hl _ _ _ _ _ _ _ o3 f1 he hs).1 rfl
        | some q =>
          obtain ⟨k, hk, e2⟩ := hw q rfl
          have he2 : enO D s.1.length ((nmT t c d, 2) :: (nmT t a b, 1) :: e) ((nmT t c d, q.2) :: (nmT t a b, q.1) :: ev) := ⟨rfl, Or.inr (Or.inl ⟨rfl, k, hk, e2⟩), rfl, Or.inl rfl, he⟩
          rw [ev_22s, ← exQ_n hq (n0 o4 f2 he2) (n0 o3 f1 he)]
          exact (hr _ _ _ _ _ _ _ o4 f2 he2 hs).1 rfl
/-- ARGUMENTS come in -/
theorem enO_ag {m : Nat} : ∀ (L : List AD) (v : List Int32) (k : Nat) (pe : List pE1) (ev : List (List Nat × Int32)), v.length = L.length → (∀ (j : Nat) (x : Int32) (a : AD), v[j]? = some x → L[j]? = some a → vlO D m a.2.2 x) → enO D m (ety t pe) ev → enO D m (ety t (agP L k pe)) (rAr t L v ev)
  | [], v, k, pe, ev, _, _, h => h
  | a :: L, [], k, pe, ev, hl, _, _ => by cases hl
  | a :: L, x :: v, k, pe, ev, hl, hv, h => enO_ag L v (k + 1) (((a.1, a.2.1), k, a.2.2) :: pe) ((nmT t a.1 a.2.1, x) :: ev) (by simpa using hl) (fun j y b hy hb => hv (j + 1) y b hy hb) ⟨rfl, hv 0 x a rfl rfl, h⟩
theorem jBd_mem {q : FD} : ∀ {R : List FD}, jBd t D R = none → q ∈ R → jq t D q = none
  | [], _, h => by cases h
  | p :: R, h, hq => by
    obtain ⟨h1, h2⟩ := m2_none.mp (show m2 (jq t D p) (jBd t D R) = none from h)
    rcases List.mem_cons.mp hq with rfl | hq
    · exact h1
    · exact jBd_mem h2 hq
theorem gdD_of (hL : D.length ≤ 20) (hok : ∀ q ∈ D, okD t n q) : gdD D := ⟨hL, fun q hq => ⟨(hok q hq).2.2.2.1.1, fun a ha => ((hok q hq).2.2.1 a ha).2.1⟩⟩
/-- the body of FUNCTION f, its ARGUMENTS -/
theorem rBd_at {f : Nat} {q : FD} (h : D[f]? = some q) : rBd D f = q.2.2.2.2 ∧ rAg D f = q.2.1 ∧ tkD D f = q.2.1.length ∧ gvD D f = q.2.2.1 := by
  refine ⟨?_, ?_, ?_, ?_⟩
  · unfold rBd; rw [h]
  · unfold rAg; rw [h]
  · unfold tkD; rw [h]
  · unfold gvD; rw [h]
theorem enO_at {f m : Nat} {q : FD} {v : List Int32} (h : D[f]? = some q) (hv : vsP D f 0 (tkD D f) m v) : enO D m (ety t (agP q.2.1 0 [])) (rAr t q.2.1 v []) := by
  refine enO_ag q.2.1 v 0 [] [] (hv.1.trans (rBd_at h).2.2.1) (fun j x a hx ha => ?_) trivial
  have := hv.2 j x hx
  have e : tyD D f (0 + j) = a.2.2 := by
    unfold tyD
    rw [h, Nat.zero_add]
    show (match q.2.1[j]? with
      | some a => a.2.2
      | none => 0) = a.2.2
    rw [ha]
  rw [e] at this
  exact this
theorem rCl_ty (hL : D.length ≤ 20) (hok : ∀ q ∈ D, okD t n q) (hj : jBd t D D = none) : ∀ K, cO D (rCl t D K)
  | 0 => fun f v s hf hv hs => pO.x hs (Nat.le_refl _)
  | K + 1 => fun f v s hf hv hs => by
    have hq : D[f]? = some D[f] := List.getElem?_eq_getElem hf
    generalize D[f] = q at hq
    have qm := List.mem_of_getElem? hq
    obtain ⟨b1, b2, b3, b4⟩ := rBd_at hq
    have hD := gdD_of hL hok
    show pO (v1P D (gvD D f)) s.1.length (if s.2.1 < 5000 then evT t D (rCl t D K) (rBd D f) none (rAr t (rAg D f) v []) (s.1, s.2.1 + 1, max s.2.2 (60 - K)) else (s, .error 4))
    by_cases c : s.2.1 < 5000
    · rw [if_pos c, b1, b2, b4]
      obtain ⟨f1, f2⟩ := m2_none.mp (show m2 (ckF t D q.2.2.2.2 (ety t (agP q.2.1 0 []))) (exQ (ckT t D q.2.2.2.2 (ety t (agP q.2.1 0 []))) q.2.2.1 q.2.2.2.1) = none from jBd_mem hj qm)
      have he := enO_at (t := t) hq hv
      have o := (hok q qm).2.2.2.2.2.1
      have hD1 : ∀ q ∈ D, 1 ≤ q.2.2.1 := fun q hq => (hD.2 q hq).1
      have et := exQ_n f2 ((ckT_n0 hD1 _ _ _ _ _ _ o f1 he.n0).1 rfl) (by have := hD1 q qm; omega)
      rw [← et]
      exact (ev_ty hD (rCl_ty hL hok hj K) _ _ _ _ _ _ _ (s.1, s.2.1 + 1, max s.2.2 (60 - K)) o f1 he hs).1 rfl
    · rw [if_neg c]
      exact pO.x hs (Nat.le_refl _)
end TY2
