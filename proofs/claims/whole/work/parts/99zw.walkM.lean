/-! THE REFERENCE runs: walks put together -/
/-- the reference's value: a LIST is one less -/
def rv (y : Nat) (v : Int32) : Int32 := if y = 2 then v - 1 else v
def rv1 (y : Nat) (vs : List Int32) : List Int32 := vs.map (rv y)
def rvS (D : List FD) (f : Nat) : Nat → List Int32 → List Int32
  | _, [] => []
  | k, v :: vs => rv (tyD D f k) v :: rvS D f (k + 1) vs
def kYb (d : Nat) (Q : Option Value → fkS → Prop) (σ0 : fkS) (s : rwS) (x : Nat) : Prop := ∀ σ', YEr σ0 s x σ' → 1 ≤ x → x ≤ 4 → LY d Q σ'
def kYo (d : Nat) (σ0 : fkS) (A : List Int32) (F : List (Int32 × List Int32)) (p : Int32) (Q : Option Value → fkS → Prop) (g : List Int32 → List Int32) (s : rwS) (vs : List Int32) : Prop := ∀ σ', WM σ0 ((g vs).reverse ++ A) F s p σ' → LY d Q σ'
def kRy (d : Nat) (σ0 : fkS) (A : List Int32) (F : List (Int32 × List Int32)) (p : Int32) (Q : Option Value → fkS → Prop) (g : List Int32 → List Int32) (r : rR) : Prop := match r.2 with
  | .error x => kYb d Q σ0 r.1 x
  | .ok vs => kYo d σ0 A F p Q g r.1 vs
/-- from p0 with A0, F0 the RUN comes to pe with r on A, F -/
def EY (d : Nat) (σ0 : fkS) (F0 : List (Int32 × List Int32)) (A0 : List Int32) (F : List (Int32 × List Int32)) (A : List Int32) (s : rwS) (p0 pe : Nat) (g : List Int32 → List Int32) (r : rR) : Prop := ∀ σ Q, WM σ0 A0 F0 s (nI p0) σ → kRy d σ0 A F (nI pe) Q g r → LY d Q σ
def SY (d : Nat) (σ0 : fkS) (F0 : List (Int32 × List Int32)) (A0 : List Int32) (F1 : List (Int32 × List Int32)) (A1 : List Int32) (s : rwS) (p0 p1 : Nat) : Prop := ∀ σ Q, WM σ0 A0 F0 s (nI p0) σ → (∀ σ', WM σ0 A1 F1 s (nI p1) σ' → LY d Q σ') → LY d Q σ
/-- CALLS -/
def CLY (d : Nat) (σ0 : fkS) (F : List (Int32 × List Int32)) (K : Nat) (D : List FD) (C : Nat → List Int32 → rwS → rR) : Prop := ∀ f vs A s p Q σ dd, f < D.length → vsP D f 0 (tkD D f) s.1.length vs → stO s → A.length + 188 * K ≤ 12000 → WM σ0 ((rvS D f 0 vs).reverse ++ A) F s p σ → kRy d σ0 A F p Q (rv1 (gvD D f)) (C f vs s) → Cv dd 363 [.ref 103, .int (nI f)] σ (fun σ9 => LY d Q σ9)
section EYs
variable {d p p0 p1 pe : Nat} {σ0 : fkS} {F F0 F1 : List (Int32 × List Int32)} {A A0 A1 : List Int32} {s s1 : rwS} {r r1 : rR} {C : List tE} {g g1 : List Int32 → List Int32}
theorem EY.ok {vs : List Int32} : EY d σ0 F ((g vs).reverse ++ A) F A s p p g (s, .ok vs) := fun σ Q h hK => (show kYo d σ0 A F (nI p) Q g s vs from hK) σ h
theorem EY.ok1 {x : Int32} {y : Nat} : EY d σ0 F (rv y x :: A) F A s p p (rv1 y) (s, .ok [x]) := EY.ok (g := rv1 y) (vs := [x])
theorem EY.cast {p0' pe' : Nat} (h : EY d σ0 F0 A0 F A s p0 pe g r) (h0 : p0' = p0) (he : pe' = pe) : EY d σ0 F0 A0 F A s p0' pe' g r := by
  subst h0
  subst he
  exact h
theorem EY.b {k : rwS → List Int32 → rR} (h : EY d σ0 F0 A0 F1 A1 s p0 p1 g1 r1) (go : ∀ s1 vs, r1 = (s1, .ok vs) → EY d σ0 F1 ((g1 vs).reverse ++ A1) F A s1 p1 pe g (k s1 vs)) : EY d σ0 F0 A0 F A s p0 pe g (rwB r1 k) := by
  intro σ Q hx hK
  refine h σ Q hx ?_
  obtain ⟨s1, x | vs⟩ := r1
  · exact hK
  · intro σ' hx'
    exact go s1 vs rfl σ' Q hx' hK
theorem EY.b2 (h : EY d σ0 F0 A0 F1 A1 s p0 p1 g1 r1) (go : ∀ s1 vs, r1 = (s1, .ok vs) → EY d σ0 F1 ((g1 vs).reverse ++ A1) F A s1 p1 pe g (s1, .ok vs)) : EY d σ0 F0 A0 F A s p0 pe g r1 := by
  intro σ Q hx hK
  refine h σ Q hx ?_
  obtain ⟨s1, x | vs⟩ := r1
  · exact hK
  · intro σ' hx'
    exact go s1 vs rfl σ' Q hx' hK
theorem EY.st (h : SY d σ0 F0 A0 F1 A1 s p0 p1) (go : EY d σ0 F1 A1 F A s p1 pe g r) : EY d σ0 F0 A0 F A s p0 pe g r := fun σ Q hx hK => h σ Q hx fun σ' hx' => go σ' Q hx' hK
theorem EY.low {rt : Int32} {M L : List Int32} (h : EY d σ0 ((rt, L) :: F0) A0 F A s p0 pe g r) : EY d σ0 ((rt, M ++ L) :: F0) A0 F A s p0 pe g r := fun σ Q hx hK => h σ Q hx.low hK
theorem sy_of {f0 : Int32 × List Int32} (go : ∀ σ, WM σ0 A0 (f0 :: F0) s (nI p) σ → Cv (d + 3) 364 [.ref 103] σ (fun σ' => WM σ0 A1 F1 s (nI p1) σ')) : SY d σ0 (f0 :: F0) A0 F1 A1 s p p1 := fun σ Q hx k => by
  refine ly_step hx ((go σ hx).mono fun x σ9 hy => ?_)
  obtain ⟨rfl, h9⟩ := Qv_s hy
  exact k σ9 h9
variable {rt : Int32} {L : List Int32} {f0 : Int32 × List Int32} {a b : Int32}
theorem u_push (hC : TCd σ0 C) (he : C[p]? = some (0, a, b)) (hl : A.length < 12000) : SY d σ0 (f0 :: F) A (f0 :: F) (a :: A) s p (p + 1) := sy_of fun _ h => m1_push hC he h hl
theorem u_load {i : Nat} {v : Int32} (hC : TCd σ0 C) (he : C[p]? = some (1, nI i, b)) (hl : A.length < 12000) (hi : L.reverse[i]? = some v) : SY d σ0 ((rt, L) :: F) A ((rt, L) :: F) (v :: A) s p (p + 1) := sy_of fun _ h => m1_load hC he h hl hi
theorem u_stor2 {v : Int32} (hC : TCd σ0 C) (he : C[p]? = some (2, nI L.length, b)) (hL : L.length < 500) : SY d σ0 ((rt, L) :: F) (v :: A) ((rt, v :: L) :: F) A s p (p + 1) := sy_of fun _ h => m1_store hC he h hL
theorem u_neg {v : Int32} (hC : TCd σ0 C) (he : C[p]? = some (3, a, b)) : SY d σ0 (f0 :: F) (v :: A) (f0 :: F) (-v :: A) s p (p + 1) := sy_of fun _ h => m1_neg hC he h
theorem u_if0 {q : Nat} {v : Int32} (hC : TCd σ0 C) (he : C[p]? = some (5, nI q, b)) (hv : v = 0) : SY d σ0 (f0 :: F) (v :: A) (f0 :: F) A s p q := sy_of fun _ h => by
  have := m1_if (d := d + 2) hC he h
  rw [if_pos hv] at this
  exact this
theorem u_if1 {q : Nat} {v : Int32} (hC : TCd σ0 C) (he : C[p]? = some (5, nI q, b)) (hv : ¬ v = 0) : SY d σ0 (f0 :: F) (v :: A) (f0 :: F) A s p (p + 1) := sy_of fun _ h => by
  have := m1_if (d := d + 2) hC he h
  rw [if_neg hv] at this
  exact this
theorem u_go {q : Nat} (hC : TCd σ0 C) (he : C[p]? = some (6, nI q, b)) : SY d σ0 (f0 :: F) A (f0 :: F) A s p q := sy_of fun _ h => m1_go hC he h
theorem u_mno {v : Int32} (hC : TCd σ0 C) (he : C[p]? = some (10, a, b)) (hv : ¬ 0 ≤ v) : SY d σ0 (f0 :: F) (v :: A) (f0 :: F) A s p (p + 1) := sy_of fun _ h => m1_mno hC he h hv
theorem u_mpr {i q : Nat} {w : Int32 × Int32} (hC : TCd σ0 C) (he : C[p]? = some (10, nI q, nI L.length)) (hi : s.1[i]? = some w) (hL : L.length + 2 ≤ 500) : SY d σ0 ((rt, L) :: F) (nI i :: A) ((rt, (w.2 - 1) :: w.1 :: L) :: F) A s p q := sy_of fun _ h => m1_mpr hC he h hi hL
theorem u_cons {x y : Int32} (hC : TCd σ0 C) (he : C[p]? = some (7, a, b)) : EY d σ0 (f0 :: F) (rv 2 y :: rv 1 x :: A) (f0 :: F) A s p (p + 1) (rv1 2) (rCons x y s) := fun σ Q hx hK => by
  refine ly_step hx (m1_pair (d := d + 2) hC he hx fun σ1 h1 => (m1_cons (y := y) (x := x) h1).mono fun u σ9 hy => ?_)
  obtain ⟨rfl, h9⟩ := Qv_s hy
  rcases h9 with ⟨c, h9⟩ | ⟨c, h9⟩
  · have e : rCons x y s = ((s.1 ++ [(x, y)], s.2), .ok [nI (s.1.length + 1)]) := if_pos c
    rw [e] at hK
    exact (show kYo d σ0 A (f0 :: F) (nI (p + 1)) Q (rv1 2) (s.1 ++ [(x, y)], s.2) [nI (s.1.length + 1)] from hK) σ9 h9
  · have e : rCons x y s = (s, .error 2) := if_neg c
    rw [e] at hK
    exact (show kYb d Q σ0 s 2 from hK) σ9 h9 (by decide) (by decide)
theorem u_op {z : Nat} {x y : Int32} (hz : z ∈ [42, 43, 45, 47, 37, 60, 128]) (hC : TCd σ0 C) (he : C[p]? = some (4, nI (sM z), b)) : EY d σ0 (f0 :: F) (rv 1 y :: rv 1 x :: A) (f0 :: F) A s p (p + 1) (rv1 1) (s, rO2 z x y) := fun σ Q hx hK => by
  refine ly_step hx ((m1_op (d := d + 2) (x := x) (y := y) hz hC he hx).mono fun u σ9 hy => ?_)
  obtain ⟨rfl, h9⟩ := Qv_s hy
  rcases h9 with ⟨w, e, h9⟩ | ⟨e, h9⟩
  · rw [e] at hK
    exact (show kYo d σ0 A (f0 :: F) (nI (p + 1)) Q (rv1 1) s [w] from hK) σ9 h9
  · rw [e] at hK
    exact (show kYb d Q σ0 s 1 from hK) σ9 h9 (by decide) (by decide)
theorem u_call {D : List FD} {Cc : Nat → List Int32 → rwS → rR} {K f : Nat} {vs : List Int32} (hC : TCd σ0 C) (hX : CLY d σ0 (f0 :: F) K D Cc) (he : C[p]? = some (8, nI f, b)) (hf : f < D.length) (hv : vsP D f 0 (tkD D f) s.1.length vs) (hs : stO s) (hl : A.length + 188 * K ≤ 12000) : EY d σ0 (f0 :: F) ((rvS D f 0 vs).reverse ++ A) (f0 :: F) A s p (p + 1) (rv1 (gvD D f)) (Cc f vs s) := fun σ Q hx hK =>
  ly_step hx (m1_call (d := d + 2) hC he hx fun σ1 h1 => hX f vs A s _ Q σ1 _ hf hv hs hl h1 hK)
theorem u_do {D : List FD} {Cc : Nat → List Int32 → rwS → rR} {K f : Nat} {u : Int32} (hC : TCd σ0 C) (hX : CLY d σ0 (f0 :: F) K D Cc) (he : C[p]? = some (9, a, b)) (hf : f < D.length) (ha : acD D f) (hv : vsP D f 0 (tkD D f) s.1.length [u]) (hs : stO s) (hl : A.length + 188 * K ≤ 12000) : EY d σ0 (f0 :: F) (rv 1 u :: rv 3 (nI f) :: A) (f0 :: F) A s p (p + 1) (rv1 1) (Cc f [u] s) := fun σ Q hx hK => by
  have e1 : rvS D f 0 [u] = [u] := by
    show [rv (tyD D f 0) u] = [u]
    rw [ha.2.1]
    rfl
  refine ly_step hx (m1_do (d := d + 2) (u := u) (w := nI f) hC he hx fun σ1 h1 => hX f [u] A s (nI (p + 1)) Q σ1 _ hf hv hs hl ?_ ?_)
  · rw [e1]
    exact h1
  · rw [ha.2.2]
    exact hK
/-- signs -/
theorem u_negs (hC : TCd σ0 C) : ∀ (a : Nat) (v : Int32) (p : Nat), CA C p (List.replicate a (3, 0, 0)) → EY d σ0 (f0 :: F) (rv 1 v :: A) (f0 :: F) A s p (p + a) (rv1 1) (s, .ok [if a % 2 = 1 then -v else v])
  | 0, v, p, _ => EY.ok1 (y := 1) (x := v)
  | a + 1, v, p, h => by
    have h' : CA C p ((3, 0, 0) :: List.replicate a (3, 0, 0)) := h
    have := u_negs hC a (-v) (p + 1) h'.t
    have e : (if a % 2 = 1 then - -v else -v) = (if (a + 1) % 2 = 1 then -v else v) := by
      rcases Nat.mod_two_eq_zero_or_one a with c | c
      · rw [if_neg (by omega), if_pos (by omega)]
      · rw [if_pos c, if_neg (by omega), Int32.neg_neg]
    rw [e] at this
    exact (EY.st (u_neg (v := v) hC h'.h) this).cast rfl (by omega)
end EYs
/-- where NAMES stand in the places -/
def YL (L : List Int32) (e : List (List Nat × Nat)) (ev : List (List Nat × Int32)) (e0 : List (List Nat × Nat)) : Prop := e0.length = L.length ∧ e.length = L.length ∧ (∀ x, plc e0 x = plc e x) ∧ ∀ x i y, plc e x = some i → lk e x = some y → L.reverse[i]? = some (rv y (rL ev x))
theorem YL.cons {L : List Int32} {e e0 : List (List Nat × Nat)} {ev : List (List Nat × Int32)} {x : List Nat} {y y0 : Nat} {v : Int32} (h : YL L e ev e0) : YL (rv y v :: L) ((x, y) :: e) ((x, v) :: ev) ((x, y0) :: e0) := by
  obtain ⟨h1, h2, h3, h4⟩ := h
  refine ⟨congrArg (· + 1) h1, congrArg (· + 1) h2, fun z => ?_, fun z i y' hi hy => ?_⟩
  · rw [plc, plc]
    by_cases c : x = z
    · rw [if_pos c, if_pos c]
      exact congrArg some (h1.trans h2.symm)
    · rw [if_neg c, if_neg c]
      exact h3 z
  · rw [plc] at hi
    rw [lk] at hy
    rw [rL]
    by_cases c : x = z
    · rw [if_pos c] at hi hy ⊢
      cases hi
      cases hy
      have h2' : e.length = L.length := h2
      show (rv y v :: L).reverse[e.length]? = some (rv y v)
      rw [h2']
      exact rev_at _ _
    · rw [if_neg c] at hi hy ⊢
      exact rev_in (M := [rv y v]) (h4 z i y' hi hy)
