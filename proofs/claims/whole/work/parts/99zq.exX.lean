/-! THE CLASS runs: a tree's CODE -/
/-- where NAMES stand on the stack -/
def SL (A : List Int32) (b : Nat) (e : List (List Nat × Nat)) (ev : List (List Nat × Int32)) (se : List (List Nat × Nat)) : Prop := (∀ x i, lk se x = some i → A.reverse[b + i]? = some (rL ev x)) ∧ ∀ x, lk e x ≠ none → lk se x ≠ none
section EQ
variable {t : Nat → UInt8} {n d b rt K : Nat} {D : List FD} {Cc : Nat → List Int32 → rwS → rR} {σ0 : fkS} {F : List (Nat × Nat)} {C : List cdE}
theorem SL.up {A M : List Int32} {e : List (List Nat × Nat)} {ev : List (List Nat × Int32)} {se : List (List Nat × Nat)} (h : SL A b e ev se) : SL (M ++ A) b e ev se := ⟨fun x i hi => rev_in (h.1 x i hi), h.2⟩
theorem SL.one {A : List Int32} {v : Int32} {e : List (List Nat × Nat)} {ev : List (List Nat × Int32)} {se : List (List Nat × Nat)} (h : SL A b e ev se) : SL (v :: A) b e ev se := h.up (M := [v])
theorem SL.cons {A : List Int32} {v : Int32} {x : List Nat} {y hh : Nat} {e : List (List Nat × Nat)} {ev : List (List Nat × Int32)} {se : List (List Nat × Nat)} (h : SL A b e ev se) (hb : b + hh = A.length) : SL (v :: A) b ((x, y) :: e) ((x, v) :: ev) ((x, hh) :: se) := by
  refine ⟨fun z i hi => ?_, fun z hz => ?_⟩
  · rw [lk] at hi
    rw [rL]
    by_cases c : x = z
    · rw [if_pos c] at hi ⊢
      cases hi
      rw [hb]
      exact rev_at v A
    · rw [if_neg c] at hi ⊢
      exact rev_in (M := [v]) (h.1 z i hi)
  · rw [lk] at hz ⊢
    by_cases c : x = z
    · rw [if_pos c]; simp
    · rw [if_neg c] at hz ⊢
      exact h.2 z hz
theorem ev_v1 {y m : Nat} {r : rR} {s1 : rwS} {vs : List Int32} (h : pO (v1P D y) m r) (e : r = (s1, .ok vs)) : stO s1 ∧ m ≤ s1.1.length ∧ ∃ v, vs = [v] ∧ vlO D s1.1.length y v := by
  subst e
  exact ⟨h.1, h.2.1, h.2.2 vs rfl⟩
theorem hR_22 : ∀ {T : Tr} {a z k : Nat}, okT t n T 3 a z k → 2 ≤ hR T := by
  intro T a z k h
  cases T with
  | leaf => exact absurd (show 3 = 1 from h) (by decide)
  | inner kd v u l r =>
    have h2 : okT t n (nd kd v.1 v.2.1 v.2.2.1 v.2.2.2 l r) 3 a z k := h
    obtain ⟨rfl, -⟩ := ok_22.mp h2
    show 2 ≤ max (hR l) (2 + hR r)
    omega
theorem ex_all (hC : XC σ0 C) (hD : gdD D) (h4 : ∀ f, tkD D f ≤ 4) (hc : cO D Cc) (hX : CLX d σ0 ((b, rt) :: F) K D Cc) : ∀ (T : Tr) (m a z k : Nat) (e : List (List Nat × Nat)) (ev : List (List Nat × Int32)) (se : List (List Nat × Nat)) (s : rwS) (A : List Int32) (p h : Nat), okT t n T m a z k → ckF t D T e = none → enO D s.1.length e ev → stO s → SL A b e ev se → b + h = A.length →
    (m = 0 → A.length + hR T + 188 * K ≤ 12000 → CA C p (cg t (rsV t) (rsF t D) T p h se) → EZ d σ0 ((b, rt) :: F) A A s p (p + ln T) (ln T) (evT t D Cc T none ev s)) ∧
    (m = 1 → ∀ f, fnI t D (nmT t a z) 0 = some f → k + cnt T ≤ tkD D f → A.length + hR T + 188 * K ≤ 12000 + k → CA C p (cg t (rsV t) (rsF t D) T p h se) → EZ d σ0 ((b, rt) :: F) A A s p (p + ln T) (ln T) (evT t D Cc T none ev s)) ∧
    (m = 2 → ∀ y, A.length + hR T + 188 * K ≤ 12000 → CA C p (cg t (rsV t) (rsF t D) T p h se ++ [(16, 0, y, 0)]) → EZ d σ0 ((b, rt) :: F) A A s p (p + ln T + 1) (ln T + 1) (evT t D Cc T none ev s) ∧ ∀ q, EZ d σ0 ((b, rt) :: F) A A s (p + lnL T + 1) (p + ln T + 1) (ln T + 1) (evT t D Cc T (some q) ev s)) ∧
    (m = 3 → ∀ y, A.length + hR T + 188 * K ≤ 12000 → CA C p (cg t (rsV t) (rsF t D) T p h se ++ [(13, 2, 0, 0), (16, 0, y, 0)]) → EZ d σ0 ((b, rt) :: F) A A s p (p + ln T + 2) (ln T + 2) (evT t D Cc T none ev s) ∧ ∀ q : Int32 × Int32, (∃ k, k ≤ s.1.length ∧ q.2 = nI k) → EZ d σ0 ((b, rt) :: F) (q.2 :: q.1 :: A) A s (p + lnL T + 1) (p + ln T + 2) (ln T + 2) (evT t D Cc T (some q) ev s)) := by
  refine tr_ind (fun m a z k e ev se s A p h ho _ _ hs _ _ => ?_) (fun kd a b' c d' l r hl hr _ m a0 z0 k0 e ev se s A p h ho hF he hs hS hb => ?_)
  · have : m = 1 := ho
    subst this
    exact ⟨fun z => by omega, fun _ f _ _ _ _ => EZ.ok (vs := []), fun z => by omega, fun z => by omega⟩
  · have hb1 : ∀ v : Int32, b + (h + 1) = (v :: A).length := fun v => by rw [List.length_cons]; omega
    refine ⟨fun em hH hA => ?_, fun em => ?_, fun em => ?_, fun em => ?_⟩
    · subst em
      obtain ⟨k2, _, _, _, _, _, _, e2, hk⟩ := ok_k ho
      have ek : kd = k2 := by cases e2; rfl
      have hk' : kd ≤ 12 := by omega
      rcases (show kd = 0 ∨ kd = 1 ∨ kd = 2 ∨ kd = 3 ∨ kd = 4 ∨ kd = 5 ∨ kd = 6 ∨ kd = 7 ∨ kd = 8 ∨ kd = 9 ∨ kd = 10 ∨ kd = 11 ∨ kd = 12 by omega) with rfl | rfl | rfl | rfl | rfl | rfl | rfl | rfl | rfl | rfl | rfl | rfl | rfl
      · have hH' : A.length + 1 + 188 * K ≤ 12000 := hH
        rw [cg_0] at hA
        rw [ln_0, ev_0]
        exact EZ.st (t_num1 hC hA.h (by omega)) EZ.ok1
      · have hH' : A.length + hR l + 188 * K ≤ 12000 := hH
        obtain ⟨o1, o2, o3, o4, o5⟩ := ok_1.mp ho
        rw [cF_1] at hF
        obtain ⟨f1, f2⟩ := m2_none.mp hF
        rw [cg_1] at hA
        rw [ln_1, ev_1]
        have hA2 := hA.r (q := p + ln l) (by rw [cg_len])
        have T1 := (ev_ty hD hc _ _ _ _ _ _ _ _ o4 f1 he hs).1 rfl
        have X1 := (hl _ _ _ _ _ _ _ _ _ p h o4 f1 he hs hS hb).1 rfl hH' hA.l
        by_cases c2 : a % 2 = 1
        · rw [if_pos c2] at hA2
          refine (EZ.b (L2 := 2) (pe := p + ln l + 1 + 1) X1 fun s1 vs e1 => ?_).cast rfl (by omega) (by omega)
          obtain ⟨-, -, v, rfl, -⟩ := ev_v1 T1 e1
          rw [if_pos c2]
          show EZ d σ0 _ (v :: A) A s1 _ _ _ (s1, .ok [-v])
          exact EZ.st (t_n14 hC hA2.h) (EZ.st (t_neg1 hC hA2.t.h) EZ.ok1)
        · refine (EZ.b (L2 := 1) (pe := p + ln l + 1) X1 fun s1 vs e1 => ?_).cast rfl (by omega) (by omega)
          obtain ⟨-, -, v, rfl, -⟩ := ev_v1 T1 e1
          rw [if_neg c2]
          show EZ d σ0 _ (v :: A) A s1 _ _ _ (s1, .ok [v])
          exact EZ.st (t_n14 hC hA2.h) EZ.ok1
      · have hH' : A.length + 1 + 188 * K ≤ 12000 := hH
        rw [cF_2] at hF
        rw [cg_2] at hA
        rw [ln_2, ev_2]
        cases hx : lk se (nmT t a b') with
        | none =>
          refine absurd hx (hS.2 _ fun z => ?_)
          rw [z, if_pos rfl] at hF
          cases hF
        | some i =>
          have er : rsV t a b' se = lN i := by
            unfold rsV
            rw [hx]
            rfl
          rw [er] at hA
          exact EZ.st (t_name1 hC hA.h (by omega) (hS.1 _ i hx)) EZ.ok1
      · have hH' : A.length + max 1 (hR l) + 188 * K ≤ 12000 := hH
        obtain ⟨o1, o2, o3, o4, o5⟩ := ok_3.mp ho
        rw [cF_3] at hF
        obtain ⟨f1, f2⟩ := m2_none.mp hF
        cases hx : fnI t D (nmT t a b') 0 with
        | none => rw [hx] at f1; exact absurd f1 (by unfold tkO; simp)
        | some f =>
          rw [hx] at f1
          have ec : tkD D f = c := by
            by_cases g : tkD D f = c
            · exact g
            · have : tkO D a c (some f) = some a := if_neg g
              rw [this] at f1
              cases f1
          have er : rsF t D a b' = lN f := by
            unfold rsF
            rw [hx]
            rfl
          rw [cg_3, er] at hA
          rw [ln_3, ev_3, hx]
          have hA2 := hA.r (q := p + ln l) (by rw [cg_len])
          have T1 := (ev_ty hD hc _ _ _ _ _ _ _ _ o4 f2 he hs).2.1 rfl f hx (by omega)
          have X1 := (hl _ _ _ _ _ _ _ _ _ p h o4 f2 he hs hS hb).2.1 rfl f hx (by omega) (by omega) hA.l
          refine (EZ.b (L2 := 1) (pe := p + ln l + 1) X1 fun s1 vs e1 => ?_).cast rfl (by omega) (by omega)
          rw [e1] at T1
          have hv := T1.2.2 vs rfl
          rw [← o2, ← ec] at hv
          exact t_call1 hC hX hA2.h (fnI_lt hx).1 hv T1.1 (by omega)
      · have hH' : A.length + 1 + 188 * K ≤ 12000 := hH
        rw [cF_4] at hF
        cases hx : fnI t D (nmT t a b') 0 with
        | none => rw [hx] at hF; exact absurd hF (by unfold acO; simp)
        | some f =>
          have er : rsF t D a b' = lN f := by
            unfold rsF
            rw [hx]
            rfl
          rw [cg_4, er] at hA
          rw [ln_4, ev_4, hx]
          exact EZ.st (t_act1 hC hA.h (by omega)) EZ.ok1
      · have hH' : A.length + 1 + 188 * K ≤ 12000 := hH
        rw [cg_5] at hA
        rw [ln_5, ev_5]
        exact EZ.st (t_nil1 hC hA.h (by omega)) EZ.ok1
      · have hH' : A.length + max (hR l) (1 + hR r) + 188 * K ≤ 12000 := hH
        obtain ⟨o1, o2, o3, o4⟩ := ok_6.mp ho
        rw [cF_6] at hF
        obtain ⟨f1, f2⟩ := m2_none.mp hF
        obtain ⟨f3, f4⟩ := m2_none.mp f1
        obtain ⟨f5, f6⟩ := m2_none.mp f2
        rw [cg_6] at hA
        rw [ln_6, ev_6]
        have hA2 := hA.r (q := p + ln l) (by rw [cg_len])
        have hA3 := hA2.t
        have hA4 := hA3.r (q := p + ln l + 1 + ln r) (by rw [cg_len])
        refine (EZ.b (L2 := ln r + 2 + 1) (pe := p + ln l + 1 + ln r + 1 + 1) ((hl _ _ _ _ _ _ _ _ _ p h o3 f3 he hs hS hb).1 rfl (by omega) hA.l) fun s1 vs e1 => ?_).cast rfl (by omega) (by omega)
        obtain ⟨g1, g2, v, rfl, -⟩ := ev_v1 ((ev_ty hD hc _ _ _ _ _ _ _ _ o3 f3 he hs).1 rfl) e1
        show EZ d σ0 _ (v :: A) A s1 _ _ _ _
        refine EZ.st (t_n14 hC hA2.h) (EZ.b (L2 := 2) ((hr _ _ _ _ _ _ _ _ (v :: A) (p + ln l + 1) (h + 1) o4 f5 (he.up g2) g1 hS.one (hb1 v)).1 rfl (by rw [List.length_cons]; omega) hA3.l) fun s2 us e2 => ?_)
        obtain ⟨g3, g4, u, rfl, -⟩ := ev_v1 ((ev_ty hD hc _ _ _ _ _ _ _ _ o4 f5 (he.up g2) g1).1 rfl) e2
        show EZ d σ0 _ (u :: v :: A) A s2 _ _ _ (rCons v u s2)
        exact EZ.st (t_n14 hC hA4.h) (t_cons1 hC hA4.t.h)
      · have hH' : A.length + max (hR l) (1 + hR r) + 188 * K ≤ 12000 := hH
        obtain ⟨o1, o2, o3, o4⟩ := ok_7.mp ho
        rw [cF_7] at hF
        obtain ⟨f1, f2⟩ := m2_none.mp hF
        obtain ⟨f3, f4⟩ := m2_none.mp f1
        obtain ⟨f5, f6⟩ := m2_none.mp f2
        rw [cg_7] at hA
        rw [ln_7, ev_7]
        have hA2 := hA.r (q := p + ln l) (by rw [cg_len])
        have hA3 := hA2.t
        have hA4 := hA3.r (q := p + ln l + 1 + ln r) (by rw [cg_len])
        refine (EZ.b (L2 := ln r + 2 + 1) (pe := p + ln l + 1 + ln r + 1 + 1) ((hl _ _ _ _ _ _ _ _ _ p h o3 f3 he hs hS hb).1 rfl (by omega) hA.l) fun s1 vs e1 => ?_).cast rfl (by omega) (by omega)
        obtain ⟨g1, g2, v, rfl, hv⟩ := ev_v1 ((ev_ty hD hc _ _ _ _ _ _ _ _ o3 f3 he hs).1 rfl) e1
        have hD1 : ∀ q ∈ D, 1 ≤ q.2.2.1 := fun q hq => (hD.2 q hq).1
        rw [exQ_n f4 ((ckT_n0 hD1 _ _ _ _ _ _ o3 f3 he.n0).1 rfl) (by decide)] at hv
        rcases hv with hv | ⟨hv, -⟩ | ⟨-, f, hf, ha, rfl⟩
        · omega
        · omega
        · show EZ d σ0 _ (nI f :: A) A s1 _ _ _ _
          refine EZ.st (t_n14 hC hA2.h) (EZ.b (L2 := 2) ((hr _ _ _ _ _ _ _ _ (nI f :: A) (p + ln l + 1) (h + 1) o4 f5 (he.up g2) g1 hS.one (hb1 _)).1 rfl (by rw [List.length_cons]; omega) hA3.l) fun s2 us e2 => ?_)
          obtain ⟨g3, g4, u, rfl, -⟩ := ev_v1 ((ev_ty hD hc _ _ _ _ _ _ _ _ o4 f5 (he.up g2) g1).1 rfl) e2
          show EZ d σ0 _ (u :: nI f :: A) A s2 _ _ _ (Cc (nI f).toNatClampNeg [u] s2)
          rw [nI_clamp (n := f) (by have := hD.1; omega)]
          exact EZ.st (t_n14 hC hA4.h) (t_do1 hC hX hA4.t.h hf (vsP.one ha) g3 (by omega))
      · have hH' : A.length + max (hR l) (1 + hR r) + 188 * K ≤ 12000 := hH
        obtain ⟨o1, o2, o3⟩ := ok_8.mp ho
        rw [cF_8] at hF
        obtain ⟨f1, f2⟩ := m2_none.mp hF
        rw [cg_8] at hA
        rw [ln_8, ev_8]
        have hA2 := hA.r (q := p + ln l) (by rw [cg_len])
        have hA3 := hA2.t
        have hA4 := hA3.r (q := p + ln l + 1 + ln r) (by rw [cg_len])
        refine (EZ.b (L2 := ln r + 1 + 1) (pe := p + ln l + 1 + ln r + 1) ((hl _ _ _ _ _ _ _ _ _ p h o2 f1 he hs hS hb).1 rfl (by omega) hA.l) fun s1 vs e1 => ?_).cast rfl (by omega) (by omega)
        obtain ⟨g1, g2, v, rfl, hv⟩ := ev_v1 ((ev_ty hD hc _ _ _ _ _ _ _ _ o2 f1 he hs).1 rfl) e1
        have he2 : enO D s1.1.length ((nmT t a b', ckT t D l e) :: e) ((nmT t a b', v) :: ev) := ⟨rfl, hv, he.up g2⟩
        show EZ d σ0 _ (v :: A) A s1 _ _ _ (evT t D Cc r none ((nmT t a b', v) :: ev) s1)
        refine EZ.st (t_n12 hC hA2.h) (EZ.b2 (L2 := 1) ((hr _ _ _ _ _ _ _ _ (v :: A) (p + ln l + 1) (h + 1) o3 f2 he2 g1 (hS.cons hb) (hb1 v)).1 rfl (by rw [List.length_cons]; omega) hA3.l) fun s2 us e2 => ?_)
        obtain ⟨g3, g4, u, rfl, -⟩ := ev_v1 ((ev_ty hD hc _ _ _ _ _ _ _ _ o3 f2 he2 g1).1 rfl) e2
        show EZ d σ0 _ (u :: ([v] ++ A)) A s2 _ _ _ (s2, .ok [u])
        exact EZ.st (t_unb1 (k := 1) hC hA4.h rfl) EZ.ok1
      · have hH' : A.length + max (hR l) (hR r) + 188 * K ≤ 12000 := hH
        obtain ⟨o1, o2, o3, o4⟩ := ok_9.mp ho
        rw [cF_9] at hF
        obtain ⟨f1, f2⟩ := m2_none.mp hF
        obtain ⟨f3, f4⟩ := m2_none.mp f1
        obtain ⟨f5, f6⟩ := m2_none.mp f2
        rw [cg_9] at hA
        rw [ln_9, ev_9]
        have hA2 := hA.r (q := p + ln l) (by rw [cg_len])
        refine (EZ.b (L2 := ln r + 1 + 1 + 1) (pe := p + ln l + 2 + ln r + 1) ((hl _ _ _ _ _ _ _ _ _ p h o3 f3 he hs hS hb).1 rfl (by omega) hA.l) fun s1 vs e1 => ?_).cast rfl (by omega) (by omega)
        obtain ⟨g1, g2, v, rfl, hv⟩ := ev_v1 ((ev_ty hD hc _ _ _ _ _ _ _ _ o3 f3 he hs).1 rfl) e1
        have X2 := (hr _ _ _ _ _ _ _ _ A (p + ln l + 2) h o4 f5 (he.up g2) g1 hS hb).2.2.1 rfl _ (by omega) hA2.t.t
        have st := t_if1 (b := b) (rt := rt) (d := d) (F := F) (A := A) (s := s1) (v := v) hC hA2.t.h
        show EZ d σ0 _ (v :: A) A s1 _ _ _ (evT t D Cc r (if v = 0 then some (0, 0) else none) ev s1)
        refine EZ.st (t_n14 hC hA2.h) (EZ.st st ?_)
        by_cases c2 : v = 0
        · rw [if_pos c2, if_pos c2]
          exact (X2.2 (0, 0)).cast (by omega) rfl (Nat.le_refl _)
        · rw [if_neg c2, if_neg c2]
          exact X2.1
      · have hH' : A.length + max (hR l) (hR r) + 188 * K ≤ 12000 := hH
        obtain ⟨o1, o2, o3, o4⟩ := ok_10.mp ho
        rw [cF_10] at hF
        obtain ⟨f1, f2⟩ := m2_none.mp hF
        obtain ⟨f3, f4⟩ := m2_none.mp f1
        obtain ⟨f5, f6⟩ := m2_none.mp f2
        rw [cg_10] at hA
        rw [ln_10, ev_10]
        have hA2 := hA.r (q := p + ln l) (by rw [cg_len])
        have r2 := hR_22 o4
        refine (EZ.b (L2 := ln r + 2 + 1 + 1) (pe := p + ln l + 2 + ln r + 2) ((hl _ _ _ _ _ _ _ _ _ p h o3 f3 he hs hS hb).1 rfl (by omega) hA.l) fun s1 vs e1 => ?_).cast rfl (by omega) (by omega)
        obtain ⟨g1, g2, v, rfl, hv⟩ := ev_v1 ((ev_ty hD hc _ _ _ _ _ _ _ _ o3 f3 he hs).1 rfl) e1
        have X2 := (hr _ _ _ _ _ _ _ _ A (p + ln l + 2) h o4 f5 (he.up g2) g1 hS hb).2.2.2 rfl _ (by omega) hA2.t.t
        show EZ d σ0 _ (v :: A) A s1 _ _ _ (evT t D Cc r (rPr v s1) ev s1)
        refine EZ.st (t_n14 hC hA2.h) ?_
        cases hp : rPr v s1 with
        | none => exact EZ.st (t_mno1 hC hA2.t.h hp) X2.1
        | some q => exact EZ.st (t_mpr1 hC hA2.t.h hp (by omega)) ((X2.2 q (rPr_ty g1 hp)).cast (by omega) rfl (Nat.le_refl _))
      · have hH' : A.length + max (hR l) (1 + hR r) + 188 * K ≤ 12000 := hH
        obtain ⟨o1, o2, o5, o3, o4⟩ := ok_11.mp ho
        have ha : a < 1000 ∧ 32 ≤ a := by
          simp only [List.mem_cons, List.not_mem_nil, or_false] at o1
          omega
        rw [cF_11] at hF
        obtain ⟨f1, f2⟩ := m2_none.mp hF
        obtain ⟨f3, f4⟩ := m2_none.mp f1
        obtain ⟨f5, f6⟩ := m2_none.mp f2
        rw [cg_11] at hA
        rw [ln_11, ev_11]
        have hA2 := hA.r (q := p + ln l) (by rw [cg_len])
        have hA3 := hA2.t
        have hA4 := hA3.r (q := p + ln l + 1 + ln r) (by rw [cg_len])
        refine (EZ.b (L2 := ln r + 2 + 1) (pe := p + ln l + 1 + ln r + 1 + 1) ((hl _ _ _ _ _ _ _ _ _ p h o3 f3 he hs hS hb).1 rfl (by omega) hA.l) fun s1 vs e1 => ?_).cast rfl (by omega) (by omega)
        obtain ⟨g1, g2, v, rfl, -⟩ := ev_v1 ((ev_ty hD hc _ _ _ _ _ _ _ _ o3 f3 he hs).1 rfl) e1
        show EZ d σ0 _ (v :: A) A s1 _ _ _ _
        refine EZ.st (t_n14 hC hA2.h) (EZ.b (L2 := 2) ((hr _ _ _ _ _ _ _ _ (v :: A) (p + ln l + 1) (h + 1) o4 f5 (he.up g2) g1 hS.one (hb1 v)).1 rfl (by rw [List.length_cons]; omega) hA3.l) fun s2 us e2 => ?_)
        obtain ⟨g3, g4, u, rfl, -⟩ := ev_v1 ((ev_ty hD hc _ _ _ _ _ _ _ _ o4 f5 (he.up g2) g1).1 rfl) e2
        show EZ d σ0 _ (u :: v :: A) A s2 _ _ _ (s2, rO2 a v u)
        exact EZ.st (t_n14 hC hA4.h) (t_op1 hC hA4.t.h ha.1 ha.2)
      · have hH' : A.length + max (hR l) (1 + hR r) + 188 * K ≤ 12000 := hH
        obtain ⟨o1, o2, o5, o3, o4, o6⟩ := ok_12.mp ho
        have ha : a < 1000 ∧ 32 ≤ a := by
          simp only [List.mem_cons, List.not_mem_nil, or_false] at o1
          omega
        rw [cF_12] at hF
        obtain ⟨f1, f2⟩ := m2_none.mp hF
        obtain ⟨f3, f4⟩ := m2_none.mp f1
        obtain ⟨f5, f6⟩ := m2_none.mp f2
        rw [cg_12] at hA
        rw [ln_12, ev_12]
        have hA2 := hA.r (q := p + ln l) (by rw [cg_len])
        have hA4 := hA2.r (q := p + ln l + ln r) (by rw [cg_len])
        refine (EZ.b (L2 := ln r + 2) (pe := p + ln l + ln r + 1 + 1) ((hl _ _ _ _ _ _ _ _ _ p h o3 f3 he hs hS hb).1 rfl (by omega) hA.l) fun s1 vs e1 => ?_).cast rfl (by omega) (by omega)
        obtain ⟨g1, g2, v, rfl, -⟩ := ev_v1 ((ev_ty hD hc _ _ _ _ _ _ _ _ o3 f3 he hs).1 rfl) e1
        show EZ d σ0 _ (v :: A) A s1 _ _ _ _
        refine EZ.b (L2 := 2) ((hr _ _ _ _ _ _ _ _ (v :: A) (p + ln l) (h + 1) o4 f5 (he.up g2) g1 hS.one (hb1 v)).1 rfl (by rw [List.length_cons]; omega) hA2.l) fun s2 us e2 => ?_
        obtain ⟨g3, g4, u, rfl, -⟩ := ev_v1 ((ev_ty hD hc _ _ _ _ _ _ _ _ o4 f5 (he.up g2) g1).1 rfl) e2
        show EZ d σ0 _ (u :: v :: A) A s2 _ _ _ (s2, rO2 a v u)
        exact EZ.st (t_n14 hC hA4.h) (t_op1 hC hA4.t.h ha.1 ha.2)
    · subst em
      obtain ⟨rfl, ha, hz, -, hd, o3, o4⟩ := ok_21.mp ho
      subst ha
      subst hz
      subst hd
      intro f hf hk hH hA
      have hk2 : d' + (1 + cnt r) ≤ tkD D f := hk
      have := h4 f
      have hH' : A.length + max (min d' 3 + hR l) (hR r) + 188 * K ≤ 12000 + d' := hH
      rw [cF_21] at hF
      obtain ⟨f1, f2⟩ := m2_none.mp hF
      obtain ⟨f3, f4⟩ := m2_none.mp f1
      rw [cg_21] at hA
      rw [ln_21, ev_21]
      have hA2 := hA.r (q := p + ln l) (by rw [cg_len])
      refine (EZ.b (L2 := ln r + 0 + 1) (pe := p + ln l + 1 + ln r) ((hl _ _ _ _ _ _ _ _ _ p h o3 f3 he hs hS hb).1 rfl (by omega) hA.l) fun s1 vs e1 => ?_).cast rfl (by omega) (by omega)
      obtain ⟨g1, g2, v, rfl, hv⟩ := ev_v1 ((ev_ty hD hc _ _ _ _ _ _ _ _ o3 f3 he hs).1 rfl) e1
      show EZ d σ0 _ (v :: A) A s1 _ _ _ _
      refine EZ.st (t_n15 hC hA2.h) (EZ.b (L2 := 0) ((hr _ _ _ _ _ _ _ _ (v :: A) (p + ln l + 1) (h + 1) o4 f2 (he.up g2) g1 hS.one (hb1 v)).2.1 rfl f hf (by omega) (by rw [List.length_cons]; omega) hA2.t) fun s2 us e2 => ?_)
      have eA : us.reverse ++ (v :: A) = (v :: us).reverse ++ A := by
        rw [List.reverse_cons, List.append_assoc]
        rfl
      rw [eA]
      exact EZ.ok (vs := v :: us)
    · subst em
      obtain ⟨rfl, o3, o4⟩ := ok_20.mp ho
      intro y hH hA
      have hH' : A.length + max (hR l) (hR r) + 188 * K ≤ 12000 := hH
      rw [cF_20] at hF
      obtain ⟨f1, f2⟩ := m2_none.mp hF
      have hAe := hA.r (q := p + ln (nd 20 a b' c d' l r)) (by rw [cg_len])
      have hA' := hA.l
      rw [cg_20] at hA'
      have hA2 := hA'.r (q := p + ln l) (by rw [cg_len])
      rw [lnL_nd]
      rw [ln_20] at hAe ⊢
      refine ⟨?_, fun q => ?_⟩
      · rw [ev_20n]
        refine (EZ.b2 (L2 := 1) (pe := p + ln l + ln r + 2) ((hl _ _ _ _ _ _ _ _ _ p h o3 f1 he hs hS hb).1 rfl (by omega) hA'.l) fun s1 vs e1 => ?_).cast rfl (by omega) (by omega)
        exact EZ.st (t_go1 hC hA2.h) EZ.ok
      · rw [ev_20s]
        refine (EZ.b2 (L2 := 1) (pe := p + (ln l + ln r + 1) + 1) ((hr _ _ _ _ _ _ _ _ A (p + ln l + 1) h o4 f2 he hs hS hb).1 rfl (by omega) hA2.t) fun s1 vs e1 => ?_).cast rfl rfl (by omega)
        rw [show p + ln l + 1 + ln r = p + (ln l + ln r + 1) by omega]
        exact EZ.st (t_n16 hC hAe.h) EZ.ok
    · subst em
      obtain ⟨rfl, -, -, o3, o4⟩ := ok_22.mp ho
      intro y hH hA
      have hH' : A.length + max (hR l) (2 + hR r) + 188 * K ≤ 12000 := hH
      rw [cF_22] at hF
      obtain ⟨f1, f2⟩ := m2_none.mp hF
      have hAe := hA.r (q := p + ln (nd 22 a b' c d' l r)) (by rw [cg_len])
      have hA' := hA.l
      rw [cg_22] at hA'
      have hA2 := hA'.r (q := p + ln l) (by rw [cg_len])
      have hA3 := hA2.t
      rw [lnL_nd]
      rw [ln_22] at hAe ⊢
      refine ⟨?_, fun q hq => ?_⟩
      · rw [ev_22n]
        refine (EZ.b2 (L2 := 1) (pe := p + ln l + ln r + 6) ((hl _ _ _ _ _ _ _ _ _ p h o3 f1 he hs hS hb).1 rfl (by omega) hA'.l) fun s1 vs e1 => ?_).cast rfl (by omega) (by omega)
        exact EZ.st (t_go1 hC hA2.h) EZ.ok
      · rw [ev_22s]
        obtain ⟨k3, hk3, eq3⟩ := hq
        have he2 : enO D s.1.length ((nmT t c d', 2) :: (nmT t a b', 1) :: e) ((nmT t c d', q.2) :: (nmT t a b', q.1) :: ev) := ⟨rfl, Or.inr (Or.inl ⟨rfl, k3, hk3, eq3⟩), rfl, Or.inl rfl, he⟩
        have hS2 : SL (q.2 :: q.1 :: A) b ((nmT t c d', 2) :: (nmT t a b', 1) :: e) ((nmT t c d', q.2) :: (nmT t a b', q.1) :: ev) ((nmT t c d', h + 1) :: (nmT t a b', h) :: se) := (hS.cons hb).cons (hb1 q.1)
        have X2 := (hr _ _ _ _ _ _ _ _ (q.2 :: q.1 :: A) (p + ln l + 4) (h + 2) o4 f2 he2 hs hS2 (by rw [List.length_cons, List.length_cons]; omega)).1 rfl (by rw [List.length_cons, List.length_cons]; omega) (hA3.t.t.t)
        refine EZ.cast (EZ.st (t_n11 hC hA3.h) (EZ.st (t_n12 hC hA3.t.h) (EZ.st (t_n12 hC hA3.t.t.h) (EZ.b2 (L2 := 2) (pe := p + (ln l + ln r + 4) + 2) X2 fun s1 vs e1 => ?_)))) rfl rfl (by omega)
        obtain ⟨g3, g4, u, rfl, -⟩ := ev_v1 ((ev_ty hD hc _ _ _ _ _ _ _ _ o4 f2 he2 hs).1 rfl) e1
        rw [show p + ln l + 4 + ln r = p + (ln l + ln r + 4) by omega]
        show EZ d σ0 _ (u :: ([q.2, q.1] ++ A)) A s1 _ _ _ (s1, .ok [u])
        exact EZ.st (t_unb1 (k := 2) hC hAe.h rfl) (EZ.st (t_n16 hC hAe.t.h) EZ.ok1)
end EQ
