/-! A PROGRAM is judged: NAMES told twice -/
abbrev AD : Type := Nat × Nat × Nat
/-- has one of those that NAME -/
def hsA (t : Nat → UInt8) (M : List AD) (x : List Nat) : Bool := M.any fun b => decide (nmT t b.1 b.2.1 = x)
/-- a FUNCTION's NAME that was told before -/
def dN (t : Nat → UInt8) (P : List FD) (q : FD) : Option Nat := if fnI t P (nmT t q.1.1 q.1.2) 0 = none then none else some q.1.1
/-- ARGUMENTS' NAMES that were told before -/
def agF (t : Nat → UInt8) : List AD → List AD → Option Nat
  | _, [] => none
  | P, a :: R => m2 (if hsA t P (nmT t a.1 a.2.1) = true then some a.1 else none) (agF t (P ++ [a]) R)
def jNm (t : Nat → UInt8) : List FD → List FD → Option Nat
  | _, [] => none
  | P, q :: R => m2 (m2 (dN t P q) (agF t [] q.2.1)) (jNm t (P ++ [q]) R)
/-- NAMES around at the start of a body: ARGUMENTS -/
def agP : List AD → Nat → List pE1 → List pE1
  | [], _, pe => pe
  | a :: L, s, pe => agP L (s + 1) (((a.1, a.2.1), s, a.2.2) :: pe)
def agT : List AD → List Nat → List Nat
  | [], Ts => Ts
  | a :: L, Ts => agT L (a.2.2 :: Ts)
/-- the body of one -/
def jq (t : Nat → UInt8) (D : List FD) (q : FD) : Option Nat := m2 (ckF t D q.2.2.2.2 (ety t (agP q.2.1 0 []))) (exQ (ckT t D q.2.2.2.2 (ety t (agP q.2.1 0 []))) q.2.2.1 q.2.2.2.1)
def jBd (t : Nat → UInt8) (D : List FD) : List FD → Option Nat
  | [] => none
  | q :: R => m2 (jq t D q) (jBd t D R)
/-- the least fault of a PROGRAM that can be read -/
def jd (t : Nat → UInt8) (D : List FD) : Option Nat := m2 (jNm t [] D) (jBd t D D)
section FI
variable {t : Nat → UInt8}
theorem fnI_in {R : List FD} {x : List Nat} : ∀ (P : List FD) (i j : Nat), fnI t P x i = some j → fnI t (P ++ R) x i = some j ∧ i ≤ j ∧ j < i + P.length
  | [], i, j, h => by cases h
  | q :: P, i, j, h => by
    rw [fnI] at h
    rw [List.cons_append, fnI, List.length_cons]
    by_cases c : nmT t q.1.1 q.1.2 = x
    · rw [if_pos c] at h ⊢
      cases h
      exact ⟨rfl, by omega, by omega⟩
    · rw [if_neg c] at h ⊢
      obtain ⟨a1, a2, a3⟩ := fnI_in P (i + 1) j h
      exact ⟨a1, by omega, by omega⟩
theorem fnI_no {R : List FD} {q : FD} {x : List Nat} (hq : nmT t q.1.1 q.1.2 = x) : ∀ (P : List FD) (i : Nat), fnI t P x i = none → fnI t (P ++ q :: R) x i = some (i + P.length)
  | [], i, _ => by rw [List.nil_append, fnI, if_pos hq]; rfl
  | p :: P, i, h => by
    rw [fnI] at h
    rw [List.cons_append, fnI, List.length_cons]
    by_cases c : nmT t p.1.1 p.1.2 = x
    · rw [if_pos c] at h
      cases h
    · rw [if_neg c] at h ⊢
      rw [fnI_no hq P (i + 1) h]
      exact congrArg some (by omega)
theorem mid_a {α : Type} {A Z : List α} {e : α} : (A ++ e :: Z)[A.length]? = some e := by
  rw [List.getElem?_append_right (Nat.le_refl _), Nat.sub_self]; rfl
theorem drop_s {α : Type} {L : List α} {j : Nat} {b : α} (h : L[j]? = some b) : L.drop j = b :: L.drop (j + 1) := by
  obtain ⟨hj, e⟩ := List.getElem?_eq_some_iff.mp h
  rw [List.drop_eq_getElem_cons hj, e]
end FI
/-- the class judges NAMES -/
def KNm (t : Nat → UInt8) (n : Nat) (D : List FD) (σ0 : fkS) (C : List cdE) (w : Option Nat) (σ : fkS) : Prop := KG t n D σ0 C σ ∧ KF w σ
section KNs
variable {t : Nat → UInt8} {n d : Nat} {D : List FD} {σ0 σ : fkS} {C : List cdE} {w : Option Nat} {Q : Option Value → fkS → Prop}
theorem KNm.r0 (h : KNm t n D σ0 C w σ) : σ.2.2 93 0 = 76 := by rw [h.1.2.2.2.2.2.1]; exact h.1.2.2.2.2.2.2.1
theorem KNm.re {C' : List cdE} {w' : Option Nat} {σ' : fkS} (h : KNm t n D σ0 C w σ) (h' : KNm t n D σ0 C' w' σ') : σ'.2.2 = σ.2.2 := h'.1.2.2.2.2.2.1.trans h.1.2.2.2.2.2.1.symm
theorem n_note {p : Nat} {x : Int32} (hx : x = nI p) (h : KNm t n D σ0 C w σ) (hp : p ≤ 4000) : Dv d 206 [.ref 93, .int x] σ (fun σ' => KNm t n D σ0 C (m2 w (some p)) σ') := by
  subst hx
  obtain ⟨k1, k2⟩ := h.2
  have hw := flt_lt k2
  refine S_Checker_note ?_
  rw [k1]
  have st : ∀ b, b ≤ 4000 → m2 w (some p) = some b → b = p → KNm t n D σ0 C (m2 w (some p)) (sI σ 93 8 (nI p)) := by
    intro b hb e1 e2
    subst e2
    exact ⟨h.1.fr (S := fkKF) rfl (Fr.rf.sI rfl) (fun _ _ z => fkKF_in z), by rw [e1]; exact sI_ss, fun a ha => by rw [e1] at ha; cases ha; exact hb⟩
  cases w with
  | none => exact ⟨fun _ => ⟨rfl, st p hp rfl rfl⟩, fun y => absurd (hw.2.mpr rfl) y⟩
  | some a =>
    have ha := k2 a rfl
    refine ⟨fun y => absurd (hw.2.mp y) (by simp), fun _ => ⟨fun y => ⟨rfl, ?_⟩, fun y => ⟨rfl, ?_⟩⟩⟩
    · have c : a ≤ p := by
        rcases Nat.lt_or_ge p a with c | c
        · exact absurd y (nI_ge c (by omega))
        · exact c
      have e1 : m2 (some a) (some p) = some a := congrArg some (Nat.min_eq_left c)
      rw [e1]
      exact h
    · have c : p ≤ a := by
        rcases Nat.lt_or_ge a p with c | c
        · exact absurd (nI_le (Nat.le_of_lt c) (by omega)) y
        · exact c
      exact st p hp (congrArg some (Nat.min_eq_right c)) rfl
theorem n_55 (hn : n ≤ 4000) {f i : Nat} {q : FD} {a : AD} (hq : D[f]? = some q) (hi : q.2.1[i]? = some a) : ∀ (m j : Nat) (w : Option Nat) (σ : fkS), j + m = i → KNm t n D σ0 C w σ → (∀ σ', KNm t n D σ0 C (m2 w (if hsA t ((q.2.1.take i).drop j) (nmT t a.1 a.2.1) = true then some a.1 else none)) σ' → Wq 204 (d + 1) 39 [some (.ref 93), some (.int (nI f)), some (.int ((4 : Int32) * nI f)), some (.int (nI (i + 1))), none] [] σ' Q) → Wq 204 (d + 1) 55 [some (.ref 93), some (.int (nI f)), some (.int ((4 : Int32) * nI f)), some (.int (nI i)), some (.int (nI j))] [] σ Q := by
  intro m
  induction m with
  | zero =>
    intro j w σ hj h go
    have ej : j = i := by omega
    subst ej
    have e0 : (q.2.1.take j).drop j = [] := List.drop_eq_nil_of_le (by rw [List.length_take]; omega)
    have g := go σ (by rw [e0]; show KNm t n D σ0 C (m2 w none) σ; rw [m2_n]; exact h)
    refine S_Checker_checkNames_55 h.r0 ⟨fun _ => ?_, fun y => absurd (by exact Int32.le_refl _) y⟩
    rw [← nI_succ]
    exact g
  | succ m ih =>
    intro j w σ hj h go
    have ji : j < i := by omega
    have il : i < q.2.1.length := (List.getElem?_eq_some_iff.mp hi).1
    obtain ⟨-, h2, h3, h20, hok, -⟩ := h.1
    obtain ⟨-, -, -, -, -, a6, a7⟩ := h2 f q hq
    have fl : f < D.length := (List.getElem?_eq_some_iff.mp hq).1
    have hb : q.2.1[j]? = some q.2.1[j] := List.getElem?_eq_getElem (by omega)
    have ob := ((hok q (List.mem_of_getElem? hq)).2.2.1 _ (List.mem_of_getElem? hb)).1
    have oa := ((hok q (List.mem_of_getElem? hq)).2.2.1 _ (List.mem_of_getElem? hi)).1
    have an := nm_in oa
    have ed : (q.2.1.take i).drop j = q.2.1[j] :: (q.2.1.take i).drop (j + 1) := drop_s (by rw [List.getElem?_take_of_lt ji]; exact hb)
    have e1 : ((4 : Int32) * nI f) + nI j = nI (4 * f + j) := by rw [show (4 : Int32) = nI 4 from rfl, nI_mul, nI_add]
    have e2 : ((4 : Int32) * nI f) + nI i = nI (4 * f + i) := by rw [show (4 : Int32) = nI 4 from rfl, nI_mul, nI_add]
    have c1 : (nI (4 * f + j)).toNatClampNeg = 4 * f + j := nI_clamp (by omega)
    have c2 : (nI (4 * f + i)).toNatClampNeg = 4 * f + i := nI_clamp (by omega)
    have v1 : vp_in (nI (4 * f + j)) 80 := vp_in_nI (by omega) (by decide)
    have v2 : vp_in (nI (4 * f + i)) 80 := vp_in_nI (by omega) (by decide)
    refine S_Checker_checkNames_55 h.r0 ?_
    rw [e1, e2, c1, c2, (a7 j _ hb).1, (a7 i _ hi).1, (a7 i _ hi).2.1, lg_0, wv_iff ob oa, (nI_succ j).symm]
    have un : hsA t ((q.2.1.take i).drop j) (nmT t a.1 a.2.1) = (decide (nmT t q.2.1[j].1 q.2.1[j].2.1 = nmT t a.1 a.2.1) || hsA t ((q.2.1.take i).drop (j + 1)) (nmT t a.1 a.2.1)) := by
      rw [ed]; rfl
    refine ⟨fun y => absurd y (nI_ge ji (by omega)), fun _ => ⟨by decide, v1, by decide, v2, fun c => ?_, fun c => ⟨by decide, v2, ?_⟩⟩⟩
    · refine ih (j + 1) w σ (by omega) h fun σ' h' => go σ' ?_
      rw [un, decide_eq_false c, Bool.false_or]
      exact h'
    · refine yV rfl (n_note rfl h (by omega)) fun s h4 w4 => ?_
      rw [w4]
      refine ih (j + 1) _ s (by omega) h4 fun σ' h' => go σ' ?_
      rw [un, decide_eq_true c, Bool.true_or, if_pos rfl]
      rw [m2_a] at h'
      have e5 : m2 (some a.1) (if hsA t ((q.2.1.take i).drop (j + 1)) (nmT t a.1 a.2.1) = true then some a.1 else none) = some a.1 := by
        split
        · exact m2_i _
        · exact m2_n _
      rw [e5] at h'
      exact h'
theorem n_39 (hn : n ≤ 4000) {f : Nat} {q : FD} (hq : D[f]? = some q) : ∀ (R P : List AD) (w : Option Nat) (σ : fkS), q.2.1 = P ++ R → KNm t n D σ0 C w σ → (∀ σ', KNm t n D σ0 C (m2 w (agF t P R)) σ' → Q none σ') → Wq 204 (d + 1) 39 [some (.ref 93), some (.int (nI f)), some (.int ((4 : Int32) * nI f)), some (.int (nI P.length)), none] [] σ Q := by
  intro R
  induction R with
  | nil =>
    intro P w σ hP h go
    obtain ⟨-, h2, -, h20, -⟩ := h.1
    obtain ⟨-, -, a3, -⟩ := h2 f q hq
    have fl : f < D.length := (List.getElem?_eq_some_iff.mp hq).1
    have el : q.2.1.length = P.length := by rw [hP, List.append_nil]
    refine S_Checker_checkNames_39 h.r0 ?_
    rw [show (nI f).toNatClampNeg = f from nI_clamp (by omega), a3, el]
    exact ⟨by decide, vp_in_nI (by omega) (by decide), fun _ => go σ (by rw [show agF t P [] = none from rfl, m2_n]; exact h), fun y => absurd (Int32.le_refl _) y⟩
  | cons a R ih =>
    intro P w σ hP h go
    obtain ⟨-, h2, -, h20, -⟩ := h.1
    obtain ⟨-, -, a3, -, -, a6, -⟩ := h2 f q hq
    have fl : f < D.length := (List.getElem?_eq_some_iff.mp hq).1
    have el : q.2.1.length = P.length + (R.length + 1) := by rw [hP, List.length_append, List.length_cons]
    have ha : q.2.1[P.length]? = some a := by rw [hP]; exact mid_a
    have et : q.2.1.take P.length = P := by rw [hP]; exact List.take_left
    refine S_Checker_checkNames_39 h.r0 ?_
    rw [show (nI f).toNatClampNeg = f from nI_clamp (by omega), a3]
    refine ⟨by decide, vp_in_nI (by omega) (by decide), fun y => absurd y (nI_ge (by omega) (by omega)), fun _ => ?_⟩
    refine n_55 hn hq ha P.length 0 w σ (by omega) h fun σ' h' => ?_
    rw [List.drop_zero, et] at h'
    have g := ih (P ++ [a]) _ σ' (by rw [hP, List.append_assoc]; rfl) h' fun s hs => go s (by rw [agF, ← m2_a]; exact hs)
    rw [List.length_append] at g
    exact g
/-- the NAMES of DEFINITION f -/
theorem n_names (hn : n ≤ 4000) {P R : List FD} {q : FD} (hD : D = P ++ q :: R) (h : KNm t n D σ0 C w σ) : Dv (d + 1) 204 [.ref 93, .int (nI P.length)] σ (fun σ' => KNm t n D σ0 C (m2 w (m2 (dN t P q) (agF t [] q.2.1))) σ') := by
  have hq : D[P.length]? = some q := by rw [hD]; exact mid_a
  have fl : P.length < D.length := (List.getElem?_eq_some_iff.mp hq).1
  obtain ⟨-, h2, -, h20, hok, -⟩ := h.1
  obtain ⟨a1, a2, -⟩ := h2 _ q hq
  have o := (hok q (List.mem_of_getElem? hq)).1
  have on := nm_in o
  have cf : (nI P.length).toNatClampNeg = P.length := nI_clamp (by omega)
  have vf : vp_in (nI P.length) 20 := vp_in_nI (by omega) (by decide)
  refine S_Checker_checkNames h.r0 ⟨by decide, by decide, vf, ?_⟩
  rw [cf]
  refine yI rfl (z_find a1 h.1 o) fun v σ1 ⟨e1, e2⟩ w1 => ?_
  subst e1
  rw [w1, a2]
  cases hf : fnI t P (nmT t q.1.1 q.1.2) 0 with
  | none =>
    have e3 := fnI_no (R := R) rfl P 0 hf
    rw [← hD, Nat.zero_add] at e3
    rw [e3, onI_s] at e2
    subst e2
    have ed : dN t P q = none := if_pos hf
    refine ⟨fun _ => ?_, fun y => absurd (Int32.le_refl _) y⟩
    refine n_39 hn hq q.2.1 [] w σ1 rfl h fun s hs => ?_
    rw [ed]
    exact ⟨h.re hs, hs⟩
  | some j =>
    obtain ⟨e3, -, jl⟩ := fnI_in (R := q :: R) P 0 j hf
    rw [← hD] at e3
    rw [e3, onI_s] at e2
    subst e2
    have ed : dN t P q = some q.1.1 := if_neg (by rw [hf]; simp)
    refine ⟨fun y => absurd y (nI_ge (by omega) (by omega)), fun _ => ⟨by decide, vf, ?_⟩⟩
    refine yV rfl (n_note rfl h (by omega)) fun σ3 h3 w3 => ?_
    rw [w3]
    refine n_39 hn hq q.2.1 [] _ σ3 rfl h3 fun s hs => ?_
    rw [ed]
    rw [m2_a] at hs
    exact ⟨h.re hs, hs⟩
end KNs
