/-! THE CLASS judges: NAMES, CALLS, acts -/
/-- the place or FUNCTION that stands in CODE -/
def slO (x : Int64) : Option Nat → Int64
  | some s => lN s
  | none => x
section ZN
variable {t : Nat → UInt8} {n d en : Nat} {D : List FD} {σ0 σ : fkS} {A Z : List cdE} {Ts Ps : List Nat} {pe : List pE1} {w : Option Nat} {v1 : Int32} {Q : Option Value → fkS → Prop}
theorem slO_s {x : Int64} {s : Nat} : slO x (some s) = lN s := rfl
theorem slO_n {x : Int64} : slO x none = x := rfl
/-- a value is put into CODE -/
theorem z_val {e : cdE} {v : Int64} (h : KZ t n D σ0 (A ++ e :: Z) Ts pe Ps w σ) : KZ t n D σ0 (A ++ (e.1, v, e.2.2) :: Z) Ts pe Ps w (sL σ 85 A.length v) := by
  have f0 : Fr (fun c _ => Nat.beq c 85) σ (sL σ 85 A.length v) := Fr.rf.sL rfl
  obtain ⟨⟨⟨g1, g2, g3⟩, h2, h3, h4, h5, h6, h7, h8⟩, hT, hB, hP, hF⟩ := h
  refine ⟨⟨⟨?_, ?_, fun i q hq => ?_⟩, fun i q hq => ?_, h3, h4, h5, h6, h7, h8.sL (by unfold fkCC; simp)⟩, hT.fr f0 rfl (fun _ => rfl), hB.fr f0 rfl (fun _ => rfl) (fun _ => rfl), hP.fr f0 rfl (fun _ => rfl), hF.fr f0 rfl⟩
  · rw [List.length_append, List.length_cons] at g1 ⊢
    exact g1
  · rw [List.length_append, List.length_cons] at g2 ⊢
    exact g2
  · by_cases c : i = A.length
    · subst c
      rw [mid_at] at hq
      have := Option.some.inj hq
      subst this
      obtain ⟨a1, a2, a3, a4⟩ := g3 A.length e mid_at
      exact ⟨a1, sL_ss, a3, a4⟩
    · have hq' : (A ++ e :: Z)[i]? = some q := by
        rcases Nat.lt_or_ge i A.length with c1 | c1
        · rw [List.getElem?_append_left c1] at hq ⊢
          exact hq
        · rw [List.getElem?_append_right c1] at hq ⊢
          obtain ⟨j, hj⟩ : ∃ j, i - A.length = j + 1 := ⟨i - A.length - 1, by omega⟩
          rw [hj] at hq ⊢
          exact hq
      obtain ⟨a1, a2, a3, a4⟩ := g3 i q hq'
      exact ⟨a1, (sL_so c).trans a2, a3, a4⟩
  · obtain ⟨a1, a2, a3, a4, a5, a6, a7⟩ := h2 i q hq
    exact ⟨((f0 76 i rfl).2.1).trans a1, a2, a3, a4, a5, a6, fun k a ha => ⟨((f0 81 _ rfl).2.1).trans (a7 k a ha).1, (a7 k a ha).2⟩⟩
/-- a NAME -/
theorem z_nm {a z : Nat} (hn : n ≤ 4000) (h : KZ t n D σ0 (A ++ (1, wv t a z, nI a, 0) :: Z) Ts pe Ps w σ) (ho : nmOK t n a z) (hl : Ts.length < 2000) (hpe : ∀ q ∈ pe, Ts.reverse[q.2.1]? = some q.2.2) (he : A.length < en) (hen : en ≤ 3000)
    (go : ∀ σ', KZ t n D σ0 (A ++ (1, slO (wv t a z) (lk (pe.map fun q => (nmT t q.1.1 q.1.2, q.2.1)) (nmT t a z)), nI a, 0) :: Z) ((lk (pe.map fun q => (nmT t q.1.1 q.1.2, q.2.2)) (nmT t a z)).getD 0 :: Ts) pe Ps (m2 w (if lk (pe.map fun q => (nmT t q.1.1 q.1.2, q.2.2)) (nmT t a z) = none then some a else none)) σ' → ZW d en v1 (A.length + 1) σ' Q) : ZW d en v1 A.length σ Q := by
  obtain ⟨ck, vi, c2, c3, c4⟩ := h.ent
  have n4 := (nm_in ho)
  obtain ⟨k1, k2, k3, k4⟩ := h.2.1
  have both : ∀ (L : List pE1), (∀ q ∈ L, q ∈ pe) → (lk (L.map fun q => (nmT t q.1.1 q.1.2, q.2.1)) (nmT t a z) = none ∧ lk (L.map fun q => (nmT t q.1.1 q.1.2, q.2.2)) (nmT t a z) = none) ∨ ∃ q ∈ pe, lk (L.map fun q => (nmT t q.1.1 q.1.2, q.2.1)) (nmT t a z) = some q.2.1 ∧ lk (L.map fun q => (nmT t q.1.1 q.1.2, q.2.2)) (nmT t a z) = some q.2.2 := by
    intro L
    induction L with
    | nil => intro _; exact Or.inl ⟨rfl, rfl⟩
    | cons q L ih =>
      intro hL
      rw [List.map_cons, List.map_cons, lk, lk]
      by_cases c : nmT t q.1.1 q.1.2 = nmT t a z
      · rw [if_pos c, if_pos c]
        exact Or.inr ⟨q, hL q List.mem_cons_self, rfl, rfl⟩
      · rw [if_neg c, if_neg c]
        exact ih fun r hr => hL r (List.mem_cons_of_mem _ hr)
  refine z_c (k := 1) h rfl (by omega) (by omega) he hen ?_ go
  refine z_ck (d := d + 3) h.r0 (by decide) (fun y => by omega) (fun _ => ?_) (fun y => by omega) (fun y => by omega) (fun y => by omega) (fun y => by omega) (fun y => by omega) (fun y => by omega) (fun y => by omega)
  refine S_Checker_name (d := d + 2) h.r0 ⟨by decide, vi, ?_⟩
  rw [ck, c2]
  refine yI rfl (z_slot rfl h ho) fun v σ1 ⟨e1, e2⟩ w1 => ?_
  subst e1
  rw [w1]
  rcases both pe (fun _ h => h) with ⟨b1, b2⟩ | ⟨q, hq, b1, b2⟩
  · rw [b1, onI_n] at e2
    subst e2
    rw [b1, b2, slO_n, if_pos rfl, c3]
    refine ⟨fun y => absurd y (by decide), fun _ => ⟨by decide, vi, ?_⟩⟩
    refine yV rfl (z_note rfl h (by omega)) fun σ2 h2 w2 => ?_
    rw [w2]
    refine yV (h.re h2) (z_push (v := 0) rfl h2 hl (by decide)) fun σ3 h3 w3 => ?_
    show (sW σ3 σ1).2.2 = σ1.2.2 ∧ _
    rw [w3]
    exact ⟨h.re h3, h3⟩
  · rw [b1, onI_s] at e2
    subst e2
    rw [b1, b2, slO_s, if_neg (by simp), m2_n]
    have s2 : q.2.1 < 2000 := (h.2.2.1.2.2.2 q hq).2
    have cs : (nI q.2.1).toNatClampNeg = q.2.1 := nI_clamp (by omega)
    have hv := hpe q hq
    have v3 : q.2.2 ≤ 3 := k4 _ (List.mem_reverse.mp (List.mem_of_getElem? hv))
    rw [cs, nI_l (by omega), k3 _ _ hv]
    refine ⟨fun _ => ⟨by decide, vi, vp_in_nI s2 (by decide), ?_⟩, fun y => absurd (nI_pos' (by omega)) y⟩
    have h2 := z_val (v := lN q.2.1) h
    refine yV (show (sL σ1 85 A.length (lN q.2.1)).2.2 = σ1.2.2 from rfl) (z_push rfl h2 hl v3) fun σ3 h3 w3 => ?_
    show (sW σ3 σ1).2.2 = σ1.2.2 ∧ _
    rw [w3]
    exact ⟨h.re h3, h3⟩
/-- an E of a CALL -/
theorem z_pass {a z p k x : Nat} (h : KZ t n D σ0 (A ++ (15, wv t a z, nI p, nI k) :: Z) (x :: Ts) pe Ps w σ) (ho : nmOK t n a z) (hp : p ≤ 4000) (hk : k ≤ 400) (he : A.length < en) (hen : en ≤ 3000)
    (go : ∀ y σ', KZ t n D σ0 (A ++ (15, wv t a z, nI p, nI k) :: Z) (y :: Ts) pe Ps (m2 w (exQ x (atD t D (nmT t a z) k) p)) σ' → ZW d en v1 (A.length + 1) σ' Q) : ZW d en v1 A.length σ Q := by
  obtain ⟨ck, vi, c2, c3, c4⟩ := h.ent
  have key : Dv (d + 3) 219 [.ref 93, .int (nI A.length)] σ (fun σ1 => ∃ y, KZ t n D σ0 (A ++ (15, wv t a z, nI p, nI k) :: Z) (y :: Ts) pe Ps (m2 w (exQ x (atD t D (nmT t a z) k) p)) σ1) := by
    refine S_Checker_pass (d := d + 2) h.r0 ⟨by decide, by decide, vi, ?_⟩
    rw [ck, c2]
    refine yI rfl (z_find rfl h.1 ho) fun v σ1 ⟨e1, e2⟩ w1 => ⟨by decide, vi, ?_⟩
    subst e1
    rw [w1, c4]
    have nof : exQ x 0 p = none := by unfold exQ; exact if_neg fun c => c.2.1 rfl
    cases hf : fnI t D (nmT t a z) 0 with
    | none =>
      rw [hf, onI_n] at e2
      subst e2
      have e0 : atD t D (nmT t a z) k = 0 := by unfold atD; rw [hf]; rfl
      rw [e0, nof, m2_n]
      exact ⟨fun _ => ⟨rfl, x, h⟩, fun y => absurd (by decide) y⟩
    | some f =>
      rw [hf, onI_s] at e2
      subst e2
      have e0 : atD t D (nmT t a z) k = tyD D f k := by unfold atD; rw [hf]; rfl
      obtain ⟨f1, r, f2, -⟩ := fnI_lt hf
      obtain ⟨-, hM, -, h20, hok, -⟩ := h.1
      obtain ⟨-, -, m3, m4, -, m6, m7⟩ := hM f r f2
      have cf : (nI f).toNatClampNeg = f := nI_clamp (by omega)
      have o2 := hok r (List.mem_of_getElem? f2)
      rw [cf, m3, e0]
      refine ⟨fun y => absurd y (nI_pos (by omega)), fun _ => ⟨by decide, vp_in_nI (by omega) (by decide), fun y => ?_, fun y => ?_⟩⟩
      · have c2' : r.2.1.length ≤ k := by
          rcases Nat.lt_or_ge k r.2.1.length with q | q
          · exact absurd y (nI_ge q (by omega))
          · exact q
        have et : tyD D f k = 0 := by unfold tyD; rw [f2]; show (match r.2.1[k]? with | some a => a.2.2 | none => 0) = 0; rw [List.getElem?_eq_none c2']
        rw [et, nof, m2_n]
        exact ⟨rfl, x, h⟩
      · have c2' : k < r.2.1.length := by
          rcases Nat.lt_or_ge k r.2.1.length with q | q
          · exact q
          · exact absurd (nI_le q (by omega)) y
        have hk2 : r.2.1[k]? = some r.2.1[k] := List.getElem?_eq_getElem c2'
        have et : tyD D f k = r.2.1[k].2.2 := by unfold tyD; rw [f2]; show (match r.2.1[k]? with | some a => a.2.2 | none => 0) = _; rw [hk2]
        have e4 : (4 : Int32) * nI f + nI k = nI (4 * f + k) := by rw [show (4 : Int32) = nI 4 from rfl, nI_mul, nI_add]
        have c4' : (nI (4 * f + k)).toNatClampNeg = 4 * f + k := nI_clamp (by omega)
        rw [e4, c4', (m7 k _ hk2).2.2, c3, et]
        refine ⟨by decide, vp_in_nI (by omega) (by decide), by decide, vi, ?_⟩
        refine yV rfl (z_want (d := d + 1) rfl rfl h (o2.2.2.1 _ (List.mem_of_getElem? hk2)).2.2 hp) fun σ2 h2 w2 => ?_
        show (sW σ2 σ1).2.2 = σ1.2.2 ∧ _
        rw [w2]
        exact ⟨h.re h2, _, h2⟩
  refine z_st h he hen (show ¬ (15 : Int32) = 17 by decide) ?_
  refine yV (σE := σ) rfl (z_ck (d := d + 3) (k := 15) h.r0 (by decide) (fun y => by omega) (fun y => by omega) (fun y => by omega) (fun y => by omega) (fun y => by omega) (fun y => by omega) (fun y => by omega) (fun _ => key) (fun y => by omega)) fun σ1 ⟨y, h1⟩ _ => go y σ1 h1
end ZN
