/-! THE REFERENCE runs: a tree's turns -/
section EM3
variable {t : Nat → UInt8} {n d K : Nat} {D : List FD} {Cc : Nat → List Int32 → rwS → rR} {σ0 : fkS} {F : List (Int32 × List Int32)} {C : List tE} {rt : Int32}
theorem rv_1 (v : Int32) : rv 1 v = v := rfl
theorem rPr_no {k : Nat} {s : rwS} (hk : k ≤ s.1.length) (h5 : s.1.length ≤ 500) (h : rPr (nI k) s = none) : ¬ (0 : Int32) ≤ rv 2 (nI k) := by
  rcases Nat.eq_zero_or_pos k with c | c
  · subst c
    decide
  · obtain ⟨q, hq⟩ := rPr_some (v := nI k) (s := s) (nI_nle c (by omega)) (nI_nlt hk (by omega)) h5
    rw [h] at hq
    cases hq
theorem ex_allM (hC : TCd σ0 C) (hD : gdD D) (h4 : ∀ f, tkD D f ≤ 4) (hc : cO D Cc) : ∀ (T : Tr) (m a z k : Nat) (e : List (List Nat × Nat)) (ev : List (List Nat × Int32)) (e0 : List (List Nat × Nat)) (s : rwS) (A L : List Int32) (p : Nat), okT t n T m a z k → ckF t D T e = none → enO D s.1.length e ev → stO s → YL L e ev e0 → L.length + nD T ≤ 400 → (CLY d σ0 ((rt, L) :: F) K D Cc ∧ ∀ L', CLY d σ0 ((rt, L') :: F) K D Cc) → CA C p (tgT t D T p e0) →
    (m = 0 → A.length + hR T + 188 * K ≤ 12000 → EY d σ0 ((rt, L) :: F) A ((rt, L) :: F) A s p (p + lnT T) (rv1 (ckT t D T e)) (evT t D Cc T none ev s)) ∧
    (m = 1 → ∀ f, fnI t D (nmT t a z) 0 = some f → k + cnt T ≤ tkD D f → A.length + hR T + 188 * K ≤ 12000 + k → EY d σ0 ((rt, L) :: F) A ((rt, L) :: F) A s p (p + lnT T) (rvS D f k) (evT t D Cc T none ev s)) ∧
    (m = 2 ∨ m = 3 → ∀ wb, exQ (ckU t D T e) (ckT t D T e) wb = none → A.length + hR T + 188 * K ≤ 12000 → EY d σ0 ((rt, L) :: F) A ((rt, L) :: F) A s p (p + lnT T) (rv1 (ckT t D T e)) (evT t D Cc T none ev s)) ∧
    (m = 2 → ∀ wb, exQ (ckU t D T e) (ckT t D T e) wb = none → A.length + hR T + 188 * K ≤ 12000 → ∀ q, EY d σ0 ((rt, L) :: F) A ((rt, L) :: F) A s (p + lnTL T + 1) (p + lnT T) (rv1 (ckT t D T e)) (evT t D Cc T (some q) ev s)) ∧
    (m = 3 → ∀ wb, exQ (ckU t D T e) (ckT t D T e) wb = none → A.length + hR T + 188 * K ≤ 12000 → ∀ q : Int32 × Int32, (∃ k, k ≤ s.1.length ∧ q.2 = nI k) → EY d σ0 ((rt, (q.2 - 1) :: q.1 :: L) :: F) A ((rt, L) :: F) A s (p + lnTL T + 1) (p + lnT T) (rv1 (ckT t D T e)) (evT t D Cc T (some q) ev s)) := by
  have hD1 : ∀ q ∈ D, 1 ≤ q.2.2.1 := fun q hq => (hD.2 q hq).1
  have n0 : ∀ {T : Tr} {e : List (List Nat × Nat)} {ev : List (List Nat × Int32)} {m : Nat}, okT t n T 0 0 0 0 → ckF t D T e = none → enO D m e ev → ckT t D T e ≠ 0 := fun h1 h2 h3 => (ckT_n0 hD1 _ _ _ _ _ _ h1 h2 h3.n0).1 rfl
  refine tr_ind (fun m a z k e ev e0 s A L p ho _ _ hs _ _ _ _ => ?_) (fun kd a b' c d' l r hl hr _ m a0 z0 k0 e ev e0 s A L p ho hF he hs hS hn hX hA => ?_)
  · have : m = 1 := ho
    subst this
    exact ⟨fun z => by omega, fun _ f _ _ _ => EY.ok (g := rvS D f k) (vs := []), fun z => by omega, fun z => by omega, fun z => by omega⟩
  · refine ⟨fun em hH => ?_, fun em => ?_, fun em => ?_, fun em => ?_, fun em => ?_⟩
    · subst em
      obtain ⟨k2, _, _, _, _, _, _, e2, hk⟩ := ok_k ho
      have ek : kd = k2 := by cases e2; rfl
      have hk' : kd ≤ 12 := by omega
      rcases (show kd = 0 ∨ kd = 1 ∨ kd = 2 ∨ kd = 3 ∨ kd = 4 ∨ kd = 5 ∨ kd = 6 ∨ kd = 7 ∨ kd = 8 ∨ kd = 9 ∨ kd = 10 ∨ kd = 11 ∨ kd = 12 by omega) with rfl | rfl | rfl | rfl | rfl | rfl | rfl | rfl | rfl | rfl | rfl | rfl | rfl
      · have hH' : A.length + 1 + 188 * K ≤ 12000 := hH
        rw [tg_0] at hA
        rw [ev_0, cT_0]
        exact EY.st (u_push hC hA.h (by omega)) (EY.ok1 (y := 1) (x := nI a))
      · have hH' : A.length + hR l + 188 * K ≤ 12000 := hH
        have hn' : L.length + max (nD l) (nD r) ≤ 400 := hn
        obtain ⟨o1, o2, o3, o4, o5⟩ := ok_1.mp ho
        rw [cF_1] at hF
        obtain ⟨f1, f2⟩ := m2_none.mp hF
        rw [tg_1] at hA
        rw [ev_1, cT_1, show lnT (nd 1 a b' c d' l r) = lnT l + a from rfl]
        have hA2 := hA.r (q := p + lnT l) (by rw [tg_len])
        have T1 := (ev_ty hD hc _ _ _ _ _ _ _ _ o4 f1 he hs).1 rfl
        have X1 := (hl _ _ _ _ _ _ _ _ A L p o4 f1 he hs hS (by omega) hX hA.l).1 rfl hH'
        refine (EY.b (pe := p + lnT l + a) X1 fun s1 vs e1 => ?_).cast rfl (by omega)
        obtain ⟨-, -, v, rfl, -⟩ := ev_v1 T1 e1
        have et : ckT t D l e = 1 := exQ_n f2 (n0 o4 f1 he) (by decide)
        rw [et]
        show EY d σ0 _ (rv 1 v :: A) _ A s1 _ _ _ (s1, .ok [if a % 2 = 1 then -v else v])
        exact u_negs hC a v _ hA2
      · have hH' : A.length + 1 + 188 * K ≤ 12000 := hH
        rw [cF_2] at hF
        rw [tg_2] at hA
        rw [ev_2, cT_2]
        cases hx : lk e (nmT t a b') with
        | none => rw [hx, if_pos rfl] at hF; cases hF
        | some y =>
          have pn : plc e (nmT t a b') ≠ none := fun z => by
            have := (plc_lk (x := nmT t a b') e).2.mp z
            rw [hx] at this
            cases this
          cases hp : plc e (nmT t a b') with
          | none => exact absurd hp pn
          | some i =>
            rw [hS.2.2.1, hp, onI_s] at hA
            show EY d σ0 _ A _ A s _ _ (rv1 y) (s, .ok [rL ev (nmT t a b')])
            exact EY.st (u_load hC hA.h (by omega) (hS.2.2.2 _ i y hp hx)) EY.ok1
      · have hH' : A.length + max 1 (hR l) + 188 * K ≤ 12000 := hH
        have hn' : L.length + max (nD l) (nD r) ≤ 400 := hn
        obtain ⟨o1, o2, o3, o4, o5⟩ := ok_3.mp ho
        rw [cF_3] at hF
        obtain ⟨f1, f2⟩ := m2_none.mp hF
        cases hx : fnI t D (nmT t a b') 0 with
        | none => rw [hx] at f1; exact absurd f1 (by unfold tkO; simp)
        | some f =>
          rw [hx] at f1
          have ec : tkD D f = c := by
            by_cases g : tkD D f = c
            · exact g
            · have : tkO D a c (some f) = some a := if_neg g
              rw [this] at f1
              cases f1
          rw [tg_3, hx, onI_s] at hA
          rw [ev_3, cT_3, hx, show lnT (nd 3 a b' c d' l r) = lnT l + 1 from rfl]
          have hA2 := hA.r (q := p + lnT l) (by rw [tg_len])
          have T1 := (ev_ty hD hc _ _ _ _ _ _ _ _ o4 f2 he hs).2.1 rfl f hx (by omega)
          have X1 := (hl _ _ _ _ _ _ _ _ A L p o4 f2 he hs hS (by omega) hX hA.l).2.1 rfl f hx (by omega) (by omega)
          refine (EY.b (pe := p + lnT l + 1) X1 fun s1 vs e1 => ?_).cast rfl (by omega)
          rw [e1] at T1
          have hv := T1.2.2 vs rfl
          rw [← o2, ← ec] at hv
          exact u_call hC hX.1 hA2.h (fnI_lt hx).1 hv T1.1 (by omega)
      · have hH' : A.length + 1 + 188 * K ≤ 12000 := hH
        rw [cF_4] at hF
        cases hx : fnI t D (nmT t a b') 0 with
        | none => rw [hx] at hF; exact absurd hF (by unfold acO; simp)
        | some f =>
          rw [tg_4, hx, onI_s] at hA
          rw [ev_4, cT_4, hx]
          exact EY.st (u_push hC hA.h (by omega)) (EY.ok1 (y := 3) (x := nI f))
      · have hH' : A.length + 1 + 188 * K ≤ 12000 := hH
        rw [tg_5, show (-1 : Int32) = rv 2 0 by decide] at hA
        rw [ev_5, cT_5]
        exact EY.st (u_push hC hA.h (by omega)) (EY.ok1 (y := 2) (x := 0))
      · have hH' : A.length + max (hR l) (1 + hR r) + 188 * K ≤ 12000 := hH
        have hn' : L.length + max (nD l) (nD r) ≤ 400 := hn
        obtain ⟨o1, o2, o3, o4⟩ := ok_6.mp ho
        rw [cF_6] at hF
        obtain ⟨f1, f2⟩ := m2_none.mp hF
        obtain ⟨f3, f4⟩ := m2_none.mp f1
        obtain ⟨f5, f6⟩ := m2_none.mp f2
        have t1 := exQ_n f4 (n0 o3 f3 he) (by decide)
        have t2 := exQ_n f6 (n0 o4 f5 he) (by decide)
        rw [tg_6] at hA
        rw [ev_6, cT_6, show lnT (nd 6 a b' c d' l r) = lnT l + lnT r + 1 from rfl]
        have hA2 := hA.r (q := p + lnT l) (by rw [tg_len])
        have hA4 := hA2.r (q := p + lnT l + lnT r) (by rw [tg_len])
        have X1 := (hl _ _ _ _ _ _ _ _ A L p o3 f3 he hs hS (by omega) hX hA.l).1 rfl (by omega)
        rw [t1] at X1
        refine (EY.b (pe := p + lnT l + lnT r + 1) X1 fun s1 vs e1 => ?_).cast rfl (by omega)
        obtain ⟨g1, g2, v, rfl, -⟩ := ev_v1 ((ev_ty hD hc _ _ _ _ _ _ _ _ o3 f3 he hs).1 rfl) e1
        have X2 := (hr _ _ _ _ _ _ _ s1 (rv 1 v :: A) L (p + lnT l) o4 f5 (he.up g2) g1 hS (by omega) hX hA2.l).1 rfl (by rw [List.length_cons]; omega)
        rw [t2] at X2
        show EY d σ0 _ (rv 1 v :: A) _ A s1 _ _ _ _
        refine EY.b X2 fun s2 us e2 => ?_
        obtain ⟨g3, g4, u, rfl, -⟩ := ev_v1 ((ev_ty hD hc _ _ _ _ _ _ _ _ o4 f5 (he.up g2) g1).1 rfl) e2
        show EY d σ0 _ (rv 2 u :: rv 1 v :: A) _ A s2 _ _ _ (rCons v u s2)
        exact u_cons hC hA4.h
      · have hH' : A.length + max (hR l) (1 + hR r) + 188 * K ≤ 12000 := hH
        have hn' : L.length + max (nD l) (nD r) ≤ 400 := hn
        obtain ⟨o1, o2, o3, o4⟩ := ok_7.mp ho
        rw [cF_7] at hF
        obtain ⟨f1, f2⟩ := m2_none.mp hF
        obtain ⟨f3, f4⟩ := m2_none.mp f1
        obtain ⟨f5, f6⟩ := m2_none.mp f2
        have t1 := exQ_n f4 (n0 o3 f3 he) (by decide)
        have t2 := exQ_n f6 (n0 o4 f5 he) (by decide)
        rw [tg_7] at hA
        rw [ev_7, cT_7, show lnT (nd 7 a b' c d' l r) = lnT l + lnT r + 1 from rfl]
        have hA2 := hA.r (q := p + lnT l) (by rw [tg_len])
        have hA4 := hA2.r (q := p + lnT l + lnT r) (by rw [tg_len])
        have X1 := (hl _ _ _ _ _ _ _ _ A L p o3 f3 he hs hS (by omega) hX hA.l).1 rfl (by omega)
        rw [t1] at X1
        refine (EY.b (pe := p + lnT l + lnT r + 1) X1 fun s1 vs e1 => ?_).cast rfl (by omega)
        obtain ⟨g1, g2, v, rfl, hv⟩ := ev_v1 ((ev_ty hD hc _ _ _ _ _ _ _ _ o3 f3 he hs).1 rfl) e1
        rw [t1] at hv
        rcases hv with hv | ⟨hv, -⟩ | ⟨-, f, hf, ha, rfl⟩
        · omega
        · omega
        · have X2 := (hr _ _ _ _ _ _ _ s1 (rv 3 (nI f) :: A) L (p + lnT l) o4 f5 (he.up g2) g1 hS (by omega) hX hA2.l).1 rfl (by rw [List.length_cons]; omega)
          rw [t2] at X2
          show EY d σ0 _ (rv 3 (nI f) :: A) _ A s1 _ _ _ _
          refine EY.b X2 fun s2 us e2 => ?_
          obtain ⟨g3, g4, u, rfl, -⟩ := ev_v1 ((ev_ty hD hc _ _ _ _ _ _ _ _ o4 f5 (he.up g2) g1).1 rfl) e2
          show EY d σ0 _ (rv 1 u :: rv 3 (nI f) :: A) _ A s2 _ _ _ (Cc (nI f).toNatClampNeg [u] s2)
          rw [nI_clamp (n := f) (by have := hD.1; omega)]
          exact u_do hC hX.1 hA4.h hf ha (vsP.one ha) g3 (by omega)
      · have hH' : A.length + max (hR l) (1 + hR r) + 188 * K ≤ 12000 := hH
        have hn' : L.length + max (nD l) (1 + nD r) ≤ 400 := hn
        obtain ⟨o1, o2, o3⟩ := ok_8.mp ho
        rw [cF_8] at hF
        obtain ⟨f1, f2⟩ := m2_none.mp hF
        rw [tg_8, hS.1] at hA
        rw [ev_8, cT_8, show lnT (nd 8 a b' c d' l r) = lnT l + lnT r + 1 from rfl]
        have hA2 := hA.r (q := p + lnT l) (by rw [tg_len])
        have X1 := (hl _ _ _ _ _ _ _ _ A L p o2 f1 he hs hS (by omega) hX hA.l).1 rfl (by omega)
        refine (EY.b (pe := p + lnT l + 1 + lnT r) X1 fun s1 vs e1 => ?_).cast rfl (by omega)
        obtain ⟨g1, g2, v, rfl, hv⟩ := ev_v1 ((ev_ty hD hc _ _ _ _ _ _ _ _ o2 f1 he hs).1 rfl) e1
        have he2 : enO D s1.1.length ((nmT t a b', ckT t D l e) :: e) ((nmT t a b', v) :: ev) := ⟨rfl, hv, he.up g2⟩
        have X2 := (hr _ _ _ _ _ _ _ s1 A (rv (ckT t D l e) v :: L) (p + lnT l + 1) o3 f2 he2 g1 hS.cons (by rw [List.length_cons]; omega) ⟨hX.2 _, hX.2⟩ hA2.t).1 rfl (by omega)
        show EY d σ0 _ (rv (ckT t D l e) v :: A) _ A s1 _ _ _ (evT t D Cc r none ((nmT t a b', v) :: ev) s1)
        refine EY.st (u_stor2 hC hA2.h (by omega)) (EY.b2 X2 fun s2 us e2 => ?_)
        exact EY.low (M := [rv (ckT t D l e) v]) EY.ok
      · have hH' : A.length + max (hR l) (hR r) + 188 * K ≤ 12000 := hH
        have hn' : L.length + max (nD l) (nD r) ≤ 400 := hn
        obtain ⟨o1, o2, o3, o4⟩ := ok_9.mp ho
        rw [cF_9] at hF
        obtain ⟨f1, f2⟩ := m2_none.mp hF
        obtain ⟨f3, f4⟩ := m2_none.mp f1
        obtain ⟨f5, f6⟩ := m2_none.mp f2
        have t1 := exQ_n f4 (n0 o3 f3 he) (by decide)
        rw [tg_9] at hA
        rw [ev_9, cT_9, show lnT (nd 9 a b' c d' l r) = lnT l + lnT r + 1 from rfl]
        have hA2 := hA.r (q := p + lnT l) (by rw [tg_len])
        have X1 := (hl _ _ _ _ _ _ _ _ A L p o3 f3 he hs hS (by omega) hX hA.l).1 rfl (by omega)
        rw [t1] at X1
        refine (EY.b (pe := p + lnT l + 1 + lnT r) X1 fun s1 vs e1 => ?_).cast rfl (by omega)
        obtain ⟨g1, g2, v, rfl, hv⟩ := ev_v1 ((ev_ty hD hc _ _ _ _ _ _ _ _ o3 f3 he hs).1 rfl) e1
        have X2 := hr _ _ _ _ _ _ _ s1 A L (p + lnT l + 1) o4 f5 (he.up g2) g1 hS (by omega) hX hA2.t
        show EY d σ0 _ (v :: A) _ A s1 _ _ _ (evT t D Cc r (if v = 0 then some (0, 0) else none) ev s1)
        by_cases c2 : v = 0
        · rw [if_pos c2]
          exact EY.st (u_if0 hC hA2.h c2) ((X2.2.2.2.1 rfl b' f6 (by omega) (0, 0)).cast (by omega) rfl)
        · rw [if_neg c2]
          exact EY.st (u_if1 hC hA2.h c2) (X2.2.2.1 (Or.inl rfl) b' f6 (by omega))
      · have hH' : A.length + max (hR l) (hR r) + 188 * K ≤ 12000 := hH
        have hn' : L.length + max (nD l) (nD r) ≤ 400 := hn
        obtain ⟨o1, o2, o3, o4⟩ := ok_10.mp ho
        rw [cF_10] at hF
        obtain ⟨f1, f2⟩ := m2_none.mp hF
        obtain ⟨f3, f4⟩ := m2_none.mp f1
        obtain ⟨f5, f6⟩ := m2_none.mp f2
        have t1 := exQ_n f4 (n0 o3 f3 he) (by decide)
        rw [tg_10, hS.1] at hA
        rw [ev_10, cT_10, show lnT (nd 10 a b' c d' l r) = lnT l + lnT r + 1 from rfl]
        have hA2 := hA.r (q := p + lnT l) (by rw [tg_len])
        have X1 := (hl _ _ _ _ _ _ _ _ A L p o3 f3 he hs hS (by omega) hX hA.l).1 rfl (by omega)
        rw [t1] at X1
        refine (EY.b (pe := p + lnT l + 1 + lnT r) X1 fun s1 vs e1 => ?_).cast rfl (by omega)
        obtain ⟨g1, g2, v, rfl, hv⟩ := ev_v1 ((ev_ty hD hc _ _ _ _ _ _ _ _ o3 f3 he hs).1 rfl) e1
        have X2 := hr _ _ _ _ _ _ _ s1 A L (p + lnT l + 1) o4 f5 (he.up g2) g1 hS (by omega) hX hA2.t
        rw [t1] at hv
        show EY d σ0 _ (rv 2 v :: A) _ A s1 _ _ _ (evT t D Cc r (rPr v s1) ev s1)
        cases hp : rPr v s1 with
        | none =>
          rcases hv with hv | ⟨-, k, hk, rfl⟩ | ⟨hv, -⟩
          · omega
          · exact EY.st (u_mno hC hA2.h (rPr_no hk g1.1 hp)) (X2.2.2.1 (Or.inr rfl) b' f6 (by omega))
          · omega
        | some q =>
          obtain ⟨i, rfl, il, hi⟩ := rPr_nI hp g1.1
          rw [show rv 2 (nI (i + 1)) = nI i from nI_pred i]
          exact EY.st (u_mpr hC hA2.h hi (by omega)) ((X2.2.2.2.2 rfl b' f6 (by omega) q (rPr_ty g1 hp)).cast (by omega) rfl)
      · have hH' : A.length + max (hR l) (1 + hR r) + 188 * K ≤ 12000 := hH
        have hn' : L.length + max (nD l) (nD r) ≤ 400 := hn
        obtain ⟨o1, o2, o5, o3, o4⟩ := ok_11.mp ho
        rw [cF_11] at hF
        obtain ⟨f1, f2⟩ := m2_none.mp hF
        obtain ⟨f3, f4⟩ := m2_none.mp f1
        obtain ⟨f5, f6⟩ := m2_none.mp f2
        have t1 := exQ_n f4 (n0 o3 f3 he) (by decide)
        have t2 := exQ_n f6 (n0 o4 f5 he) (by decide)
        rw [tg_11] at hA
        rw [ev_11, cT_11, show lnT (nd 11 a b' c d' l r) = lnT l + lnT r + 1 from rfl]
        have hA2 := hA.r (q := p + lnT l) (by rw [tg_len])
        have hA4 := hA2.r (q := p + lnT l + lnT r) (by rw [tg_len])
        have X1 := (hl _ _ _ _ _ _ _ _ A L p o3 f3 he hs hS (by omega) hX hA.l).1 rfl (by omega)
        rw [t1] at X1
        refine (EY.b (pe := p + lnT l + lnT r + 1) X1 fun s1 vs e1 => ?_).cast rfl (by omega)
        obtain ⟨g1, g2, v, rfl, -⟩ := ev_v1 ((ev_ty hD hc _ _ _ _ _ _ _ _ o3 f3 he hs).1 rfl) e1
        have X2 := (hr _ _ _ _ _ _ _ s1 (rv 1 v :: A) L (p + lnT l) o4 f5 (he.up g2) g1 hS (by omega) hX hA2.l).1 rfl (by rw [List.length_cons]; omega)
        rw [t2] at X2
        show EY d σ0 _ (rv 1 v :: A) _ A s1 _ _ _ _
        refine EY.b X2 fun s2 us e2 => ?_
        obtain ⟨g3, g4, u, rfl, -⟩ := ev_v1 ((ev_ty hD hc _ _ _ _ _ _ _ _ o4 f5 (he.up g2) g1).1 rfl) e2
        show EY d σ0 _ (rv 1 u :: rv 1 v :: A) _ A s2 _ _ _ (s2, rO2 a v u)
        exact u_op o1 hC hA4.h
      · have hH' : A.length + max (hR l) (1 + hR r) + 188 * K ≤ 12000 := hH
        have hn' : L.length + max (nD l) (nD r) ≤ 400 := hn
        obtain ⟨o1, o2, o5, o3, o4, o6⟩ := ok_12.mp ho
        rw [cF_12] at hF
        obtain ⟨f1, f2⟩ := m2_none.mp hF
        obtain ⟨f3, f4⟩ := m2_none.mp f1
        obtain ⟨f5, f6⟩ := m2_none.mp f2
        have t1 := exQ_n f4 (n0 o3 f3 he) (by decide)
        have t2 := exQ_n f6 (n0 o4 f5 he) (by decide)
        rw [tg_12] at hA
        rw [ev_12, cT_12, show lnT (nd 12 a b' c d' l r) = lnT l + lnT r + 1 from rfl]
        have hA2 := hA.r (q := p + lnT l) (by rw [tg_len])
        have hA4 := hA2.r (q := p + lnT l + lnT r) (by rw [tg_len])
        have X1 := (hl _ _ _ _ _ _ _ _ A L p o3 f3 he hs hS (by omega) hX hA.l).1 rfl (by omega)
        rw [t1] at X1
        refine (EY.b (pe := p + lnT l + lnT r + 1) X1 fun s1 vs e1 => ?_).cast rfl (by omega)
        obtain ⟨g1, g2, v, rfl, -⟩ := ev_v1 ((ev_ty hD hc _ _ _ _ _ _ _ _ o3 f3 he hs).1 rfl) e1
        have X2 := (hr _ _ _ _ _ _ _ s1 (rv 1 v :: A) L (p + lnT l) o4 f5 (he.up g2) g1 hS (by omega) hX hA2.l).1 rfl (by rw [List.length_cons]; omega)
        rw [t2] at X2
        show EY d σ0 _ (rv 1 v :: A) _ A s1 _ _ _ _
        refine EY.b X2 fun s2 us e2 => ?_
        obtain ⟨g3, g4, u, rfl, -⟩ := ev_v1 ((ev_ty hD hc _ _ _ _ _ _ _ _ o4 f5 (he.up g2) g1).1 rfl) e2
        show EY d σ0 _ (rv 1 u :: rv 1 v :: A) _ A s2 _ _ _ (s2, rO2 a v u)
        exact u_op o1 hC hA4.h
    · subst em
      obtain ⟨rfl, ha, hz, -, hd, o3, o4⟩ := ok_21.mp ho
      subst ha
      subst hz
      subst hd
      intro f hf hk hH
      have hk2 : d' + (1 + cnt r) ≤ tkD D f := hk
      have := h4 f
      have hH' : A.length + max (min d' 3 + hR l) (hR r) + 188 * K ≤ 12000 + d' := hH
      have hn' : L.length + max (nD l) (nD r) ≤ 400 := hn
      rw [cF_21] at hF
      obtain ⟨f1, f2⟩ := m2_none.mp hF
      obtain ⟨f3, f4⟩ := m2_none.mp f1
      have ey : atD t D (nmT t a b') d' = tyD D f d' := by
        unfold atD
        rw [hf]
        rfl
      rw [ey] at f4
      have et := exQ_n f4 (n0 o3 f3 he) (tyD_n0 hD (by omega))
      rw [tg_21] at hA
      rw [ev_21, show lnT (nd 21 a b' c d' l r) = lnT l + lnT r from rfl]
      have hA2 := hA.r (q := p + lnT l) (by rw [tg_len])
      have X1 := (hl _ _ _ _ _ _ _ _ A L p o3 f3 he hs hS (by omega) hX hA.l).1 rfl (by omega)
      rw [et] at X1
      refine (EY.b (pe := p + lnT l + lnT r) X1 fun s1 vs e1 => ?_).cast rfl (by omega)
      obtain ⟨g1, g2, v, rfl, hv⟩ := ev_v1 ((ev_ty hD hc _ _ _ _ _ _ _ _ o3 f3 he hs).1 rfl) e1
      have X2 := (hr _ _ _ _ _ _ _ s1 (rv (tyD D f d') v :: A) L (p + lnT l) o4 f2 (he.up g2) g1 hS (by omega) hX hA2).2.1 rfl f hf (by omega) (by rw [List.length_cons]; omega)
      show EY d σ0 _ (rv (tyD D f d') v :: A) _ A s1 _ _ _ _
      refine EY.b X2 fun s2 us e2 => ?_
      have eA : (rvS D f (d' + 1) us).reverse ++ (rv (tyD D f d') v :: A) = (rvS D f d' (v :: us)).reverse ++ A := by
        show _ = (rv (tyD D f d') v :: rvS D f (d' + 1) us).reverse ++ A
        rw [List.reverse_cons, List.append_assoc]
        rfl
      rw [eA]
      exact EY.ok (vs := v :: us)
    · intro wb hq hH
      rcases em with rfl | rfl
      · obtain ⟨rfl, o3, o4⟩ := ok_20.mp ho
        have hH' : A.length + max (hR l) (hR r) + 188 * K ≤ 12000 := hH
        have hn' : L.length + max (nD l) (nD r) ≤ 400 := hn
        rw [cF_20] at hF
        obtain ⟨f1, f2⟩ := m2_none.mp hF
        rw [tg_20] at hA
        rw [ev_20n, cT_20, show lnT (nd 20 a b' c d' l r) = lnT l + lnT r + 1 from rfl]
        have hA2 := hA.r (q := p + lnT l) (by rw [tg_len])
        refine (EY.b2 (pe := p + lnT l + lnT r + 1) ((hl _ _ _ _ _ _ _ _ A L p o3 f1 he hs hS (by omega) hX hA.l).1 rfl (by omega)) fun s1 vs e1 => ?_).cast rfl (by omega)
        exact EY.st (u_go hC hA2.h) EY.ok
      · obtain ⟨rfl, -, -, o3, o4⟩ := ok_22.mp ho
        have hH' : A.length + max (hR l) (2 + hR r) + 188 * K ≤ 12000 := hH
        have hn' : L.length + max (nD l) (2 + nD r) ≤ 400 := hn
        rw [cF_22] at hF
        obtain ⟨f1, f2⟩ := m2_none.mp hF
        rw [tg_22] at hA
        rw [ev_22n, cT_22, show lnT (nd 22 a b' c d' l r) = lnT l + lnT r + 1 from rfl]
        have hA2 := hA.r (q := p + lnT l) (by rw [tg_len])
        refine (EY.b2 (pe := p + lnT l + lnT r + 1) ((hl _ _ _ _ _ _ _ _ A L p o3 f1 he hs hS (by omega) hX hA.l).1 rfl (by omega)) fun s1 vs e1 => ?_).cast rfl (by omega)
        exact EY.st (u_go hC hA2.h) EY.ok
    · subst em
      intro wb hq hH q
      obtain ⟨rfl, o3, o4⟩ := ok_20.mp ho
      have hH' : A.length + max (hR l) (hR r) + 188 * K ≤ 12000 := hH
      have hn' : L.length + max (nD l) (nD r) ≤ 400 := hn
      rw [cF_20] at hF
      obtain ⟨f1, f2⟩ := m2_none.mp hF
      rw [cT_20, cU_20] at hq
      rw [tg_20] at hA
      rw [ev_20s, cT_20, ← exQ_n hq (n0 o4 f2 he) (n0 o3 f1 he), show lnT (nd 20 a b' c d' l r) = lnT l + lnT r + 1 from rfl, show lnTL (nd 20 a b' c d' l r) = lnT l from rfl]
      have hA2 := hA.r (q := p + lnT l) (by rw [tg_len])
      exact ((hr _ _ _ _ _ _ _ _ A L (p + lnT l + 1) o4 f2 he hs hS (by omega) hX hA2.t).1 rfl (by omega)).cast rfl (by omega)
    · subst em
      intro wb hq hH q hk3
      obtain ⟨rfl, -, -, o3, o4⟩ := ok_22.mp ho
      have hH' : A.length + max (hR l) (2 + hR r) + 188 * K ≤ 12000 := hH
      have hn' : L.length + max (nD l) (2 + nD r) ≤ 400 := hn
      obtain ⟨k3, hk3, eq3⟩ := hk3
      rw [cF_22] at hF
      obtain ⟨f1, f2⟩ := m2_none.mp hF
      rw [cT_22, cU_22] at hq
      rw [tg_22] at hA
      have he2 : enO D s.1.length ((nmT t c d', 2) :: (nmT t a b', 1) :: e) ((nmT t c d', q.2) :: (nmT t a b', q.1) :: ev) := ⟨rfl, Or.inr (Or.inl ⟨rfl, k3, hk3, eq3⟩), rfl, Or.inl rfl, he⟩
      have hS2 : YL ((q.2 - 1) :: q.1 :: L) ((nmT t c d', 2) :: (nmT t a b', 1) :: e) ((nmT t c d', q.2) :: (nmT t a b', q.1) :: ev) ((nmT t c d', 0) :: (nmT t a b', 0) :: e0) := YL.cons (y := 2) (v := q.2) (YL.cons (y := 1) (v := q.1) hS)
      rw [ev_22s, cT_22, ← exQ_n hq (n0 o4 f2 he2) (n0 o3 f1 he), show lnT (nd 22 a b' c d' l r) = lnT l + lnT r + 1 from rfl, show lnTL (nd 22 a b' c d' l r) = lnT l from rfl]
      have hA2 := hA.r (q := p + lnT l) (by rw [tg_len])
      have X2 := (hr _ _ _ _ _ _ _ _ A ((q.2 - 1) :: q.1 :: L) (p + lnT l + 1) o4 f2 he2 hs hS2 (by rw [List.length_cons, List.length_cons]; omega) ⟨hX.2 _, hX.2⟩ hA2.t).1 rfl (by omega)
      refine EY.cast (EY.b2 (pe := p + lnT l + 1 + lnT r) X2 fun s1 vs e1 => ?_) rfl (by omega)
      exact EY.low (M := [q.2 - 1, q.1]) EY.ok
end EM3
