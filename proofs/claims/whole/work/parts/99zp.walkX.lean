/-! THE CLASS runs: walks put together -/
/-- what is to come behind r -/
def kRb (Q : Option Value → fkS → Prop) (σ0 : fkS) (s : rwS) (x : Nat) : Prop := ∀ σ', XEr σ0 s x σ' → 1 ≤ x → x ≤ 4 → Q none (sI σ' 98 13 (0 : Int32))
def kRo (d : Nat) (σ0 : fkS) (A : List Int32) (F : List (Nat × Nat)) (p z : Nat) (Q : Option Value → fkS → Prop) (s : rwS) (vs : List Int32) : Prop := ∀ σ' v, XM σ0 (vs.reverse ++ A) F s p σ' → v + 3001 * (5000 - s.2.1) ≤ z → LX d v Q σ'
def kRx (d : Nat) (σ0 : fkS) (A : List Int32) (F : List (Nat × Nat)) (p z : Nat) (Q : Option Value → fkS → Prop) (r : rR) : Prop := match r.2 with
  | .error x => kRb Q σ0 r.1 x
  | .ok vs => kRo d σ0 A F p z Q r.1 vs
/-- from p0 with A0 on the stack the RUN comes to pe with r on A, in L steps and those of the CALLS -/
def EZ (d : Nat) (σ0 : fkS) (F : List (Nat × Nat)) (A0 A : List Int32) (s : rwS) (p0 pe L : Nat) (r : rR) : Prop := ∀ σ v z Q, XM σ0 A0 F s p0 σ → v + 3001 * (5000 - s.2.1) + L ≤ z → z ≤ 40000000 → kRx d σ0 A F pe z Q r → LX d v Q σ
/-- one step that can't fail -/
def ST1 (d : Nat) (σ0 : fkS) (F : List (Nat × Nat)) (A0 A1 : List Int32) (s : rwS) (p0 p1 : Nat) : Prop := ∀ σ v Q, XM σ0 A0 F s p0 σ → v < 50000000 → (∀ σ', XM σ0 A1 F s p1 σ' → LX d (v + 1) Q σ') → LX d v Q σ
/-- the entries L stand in the CODE from p on -/
def CA {α : Type} (C : List α) (p : Nat) (L : List α) : Prop := ∀ i e, L[i]? = some e → C[p + i]? = some e
/-- CALLS: what C says, K of them are left -/
def CLX (d : Nat) (σ0 : fkS) (F : List (Nat × Nat)) (K : Nat) (D : List FD) (C : Nat → List Int32 → rwS → rR) : Prop := ∀ f vs A s p p0 v z Q σ dd, f < D.length → vsP D f 0 (tkD D f) s.1.length vs → stO s → A.length + 188 * K ≤ 12000 → p ≤ 3000 → XM σ0 (vs.reverse ++ A) F s p0 σ → v + 3001 * (5000 - s.2.1) ≤ z → z ≤ 40000000 → kRx d σ0 A F p z Q (C f vs s) → Dv (dd + 1) 226 [.ref 98, .int (nI f), .int (nI p)] σ (fun σ9 => LX d v Q σ9)
section CAs
variable {α : Type} {C : List α} {p : Nat}
theorem CA.l {X Y : List α} (h : CA C p (X ++ Y)) : CA C p X := fun i e he => h i e (by rw [List.getElem?_append_left (List.getElem?_eq_some_iff.mp he).1]; exact he)
theorem CA.r {X Y : List α} {q : Nat} (h : CA C p (X ++ Y)) (hq : q = p + X.length) : CA C q Y := fun i e he => by
  subst hq
  have := h (X.length + i) e (by rw [List.getElem?_append_right (by omega), Nat.add_sub_cancel_left]; exact he)
  rw [Nat.add_assoc]
  exact this
theorem CA.h {e : α} {X : List α} (h : CA C p (e :: X)) : C[p]? = some e := h 0 e rfl
theorem CA.t {e : α} {X : List α} (h : CA C p (e :: X)) : CA C (p + 1) X := fun i x hx => by
  have := h (i + 1) x hx
  rw [Nat.add_assoc, Nat.add_comm 1 i]
  exact this
theorem CA.at2 {X : List α} {q : Nat} (h : CA C p X) (hq : q = p) : CA C q X := by subst hq; exact h
theorem CA.mid {X Y : List α} {q : Nat} (hq : q = X.length) : CA (X ++ Y) q Y := fun i e he => by
  subst hq
  rw [List.getElem?_append_right (by omega), Nat.add_sub_cancel_left]
  exact he
end CAs
section EZs
variable {d p p0 p1 pe L L1 L2 : Nat} {σ0 : fkS} {F : List (Nat × Nat)} {A A0 A1 : List Int32} {s s1 : rwS} {r r1 : rR} {C : List cdE}
theorem EZ.ok {vs : List Int32} : EZ d σ0 F (vs.reverse ++ A) A s p p 0 (s, .ok vs) := fun σ v z Q h hz _ hK => (show kRo d σ0 A F p z Q s vs from hK) σ v h (by omega)
theorem EZ.ok1 {x : Int32} : EZ d σ0 F (x :: A) A s p p 0 (s, .ok [x]) := EZ.ok (vs := [x])
theorem EZ.cast {p0' pe' L' : Nat} (h : EZ d σ0 F A0 A s p0 pe L r) (h0 : p0' = p0) (he : pe' = pe) (hL : L ≤ L') : EZ d σ0 F A0 A s p0' pe' L' r := by
  subst h0
  subst he
  exact fun σ v z Q hx hz hM hK => h σ v z Q hx (by omega) hM hK
theorem EZ.b {k : rwS → List Int32 → rR} (h : EZ d σ0 F A0 A1 s p0 p1 L1 r1) (go : ∀ s1 vs, r1 = (s1, .ok vs) → EZ d σ0 F (vs.reverse ++ A1) A s1 p1 pe L2 (k s1 vs)) : EZ d σ0 F A0 A s p0 pe (L1 + L2) (rwB r1 k) := by
  intro σ v z Q hx hz hM hK
  refine h σ v (z - L2) Q hx (by omega) (by omega) ?_
  obtain ⟨s1, x | vs⟩ := r1
  · exact hK
  · intro σ' v' hx' hv'
    have hv2 : v' + 3001 * (5000 - s1.2.1) ≤ z - L2 := hv'
    exact go s1 vs rfl σ' v' z Q hx' (by omega) hM hK
theorem EZ.st (h : ST1 d σ0 F A0 A1 s p0 p1) (go : EZ d σ0 F A1 A s p1 pe L r) : EZ d σ0 F A0 A s p0 pe (L + 1) r := fun σ v z Q hx hz hM hK => h σ v Q hx (by omega) fun σ' hx' => go σ' (v + 1) z Q hx' (by omega) hM hK
theorem EZ.b2 (h : EZ d σ0 F A0 A1 s p0 p1 L1 r1) (go : ∀ s1 vs, r1 = (s1, .ok vs) → EZ d σ0 F (vs.reverse ++ A1) A s1 p1 pe L2 (s1, .ok vs)) : EZ d σ0 F A0 A s p0 pe (L1 + L2) r1 := by
  intro σ v z Q hx hz hM hK
  refine h σ v (z - L2) Q hx (by omega) (by omega) ?_
  obtain ⟨s1, x | vs⟩ := r1
  · exact hK
  · intro σ' v' hx' hv'
    have hv2 : v' + 3001 * (5000 - s1.2.1) ≤ z - L2 := hv'
    exact go s1 vs rfl σ' v' z Q hx' (by omega) hM hK
end EZs
section EZt
variable {d p b rt : Nat} {σ0 : fkS} {F : List (Nat × Nat)} {A : List Int32} {s : rwS} {C : List cdE}
theorem st_of {e : cdE} {A0 A1 : List Int32} {p1 : Nat} (hC : XC σ0 C) (he : C[p]? = some e) (go : ∀ σ', XM σ0 A0 ((b, rt) :: F) s (p + 1) σ' → Dv (d + 3) 227 [.ref 98, .int e.1, .long e.2.1] σ' (fun σ9 => XM σ0 A1 ((b, rt) :: F) s p1 σ9)) : ST1 d σ0 ((b, rt) :: F) A0 A1 s p p1 := fun σ v Q hx hv k => by
  refine lx_step hC he hx hv fun σ' hx' => (go σ' hx').mono fun x σ9 hy => ?_
  obtain ⟨rfl, e9, h9⟩ := Qv_s hy
  exact ⟨e9, k σ9 h9⟩
theorem t_num1 {a : Nat} {y z : Int32} (hC : XC σ0 C) (he : C[p]? = some (0, lN a, y, z)) (hl : A.length < 12000) : ST1 d σ0 ((b, rt) :: F) A (nI a :: A) s p (p + 1) := st_of hC he fun _ h => s2_num h hl
theorem t_act1 {a : Nat} {y z : Int32} (hC : XC σ0 C) (he : C[p]? = some (3, lN a, y, z)) (hl : A.length < 12000) : ST1 d σ0 ((b, rt) :: F) A (nI a :: A) s p (p + 1) := st_of hC he fun _ h => s2_act h hl
theorem t_nil1 {x : Int64} {y z : Int32} (hC : XC σ0 C) (he : C[p]? = some (4, x, y, z)) (hl : A.length < 12000) : ST1 d σ0 ((b, rt) :: F) A (0 :: A) s p (p + 1) := st_of hC he fun _ h => s2_nil h hl
theorem t_name1 {i : Nat} {y z v : Int32} (hC : XC σ0 C) (he : C[p]? = some (1, lN i, y, z)) (hl : A.length < 12000) (hi : A.reverse[b + i]? = some v) : ST1 d σ0 ((b, rt) :: F) A (v :: A) s p (p + 1) := st_of hC he fun _ h => s2_name h hl hi
theorem t_neg1 {x : Int64} {y z v : Int32} (hC : XC σ0 C) (he : C[p]? = some (7, x, y, z)) : ST1 d σ0 ((b, rt) :: F) (v :: A) (-v :: A) s p (p + 1) := st_of hC he fun _ h => s2_neg h
theorem t_if1 {q : Nat} {y z v : Int32} (hC : XC σ0 C) (he : C[p]? = some (8, lN q, y, z)) : ST1 d σ0 ((b, rt) :: F) (v :: A) A s p (if v = 0 then q else p + 1) := st_of hC he fun _ h => s2_if h
theorem t_go1 {q : Nat} {y z : Int32} (hC : XC σ0 C) (he : C[p]? = some (9, lN q, y, z)) : ST1 d σ0 ((b, rt) :: F) A A s p q := st_of hC he fun _ h => s2_go h
theorem t_mno1 {q : Nat} {y z v : Int32} (hC : XC σ0 C) (he : C[p]? = some (10, lN q, y, z)) (hv : rPr v s = none) : ST1 d σ0 ((b, rt) :: F) (v :: A) A s p (p + 1) := st_of hC he fun _ h => s2_mno h hv
theorem t_mpr1 {q : Nat} {y z v : Int32} {w : Int32 × Int32} (hC : XC σ0 C) (he : C[p]? = some (10, lN q, y, z)) (hv : rPr v s = some w) (hl : A.length + 2 ≤ 12000) : ST1 d σ0 ((b, rt) :: F) (v :: A) (w.2 :: w.1 :: A) s p q := st_of hC he fun _ h => s2_mpr h hv hl
theorem t_n11 {x : Int64} {y z : Int32} (hC : XC σ0 C) (he : C[p]? = some (11, x, y, z)) : ST1 d σ0 ((b, rt) :: F) A A s p (p + 1) := st_of hC he fun _ h => s2_n11 h
theorem t_n12 {x : Int64} {y z : Int32} (hC : XC σ0 C) (he : C[p]? = some (12, x, y, z)) : ST1 d σ0 ((b, rt) :: F) A A s p (p + 1) := st_of hC he fun _ h => s2_n12 h
theorem t_n14 {x : Int64} {y z : Int32} (hC : XC σ0 C) (he : C[p]? = some (14, x, y, z)) : ST1 d σ0 ((b, rt) :: F) A A s p (p + 1) := st_of hC he fun _ h => s2_n14 h
theorem t_n15 {x : Int64} {y z : Int32} (hC : XC σ0 C) (he : C[p]? = some (15, x, y, z)) : ST1 d σ0 ((b, rt) :: F) A A s p (p + 1) := st_of hC he fun _ h => s2_n15 h
theorem t_n16 {x : Int64} {y z : Int32} (hC : XC σ0 C) (he : C[p]? = some (16, x, y, z)) : ST1 d σ0 ((b, rt) :: F) A A s p (p + 1) := st_of hC he fun _ h => s2_n16 h
theorem t_unb1 {k : Nat} {y z v : Int32} {M : List Int32} (hC : XC σ0 C) (he : C[p]? = some (13, lN k, y, z)) (hk : M.length = k) : ST1 d σ0 ((b, rt) :: F) (v :: (M ++ A)) (v :: A) s p (p + 1) := st_of hC he fun _ h => s2_unb h hk
theorem t_cons1 {x0 : Int64} {y0 z0 x y : Int32} (hC : XC σ0 C) (he : C[p]? = some (5, x0, y0, z0)) : EZ d σ0 ((b, rt) :: F) (y :: x :: A) A s p (p + 1) 1 (rCons x y s) := fun σ v z Q hx hz hM hK => by
  refine lx_step hC he hx (by omega) fun σ' hx' => (s2_cons hx').mono fun u σ9 hy => ?_
  obtain ⟨rfl, e9, h9⟩ := Qv_s hy
  refine ⟨e9, ?_⟩
  rcases h9 with ⟨c, h9⟩ | ⟨c, h9⟩
  · have e : rCons x y s = ((s.1 ++ [(x, y)], s.2), .ok [nI (s.1.length + 1)]) := if_pos c
    rw [e] at hK
    exact (show kRo d σ0 A ((b, rt) :: F) (p + 1) z Q (s.1 ++ [(x, y)], s.2) [nI (s.1.length + 1)] from hK) σ9 (v + 1) h9 (by show v + 1 + 3001 * (5000 - s.2.1) ≤ z; omega)
  · have e : rCons x y s = (s, .error 2) := if_neg c
    rw [e] at hK
    exact lx_err hC.1 h9 (by decide) (by decide) ((show kRb Q σ0 s 2 from hK) σ9 h9 (by decide) (by decide))
theorem t_op1 {k : Nat} {x0 : Int64} {y0 z0 x y : Int32} (hC : XC σ0 C) (he : C[p]? = some (nI k, x0, y0, z0)) (hk : k < 1000) (hk2 : 32 ≤ k) : EZ d σ0 ((b, rt) :: F) (y :: x :: A) A s p (p + 1) 1 (s, rO2 k x y) := fun σ v z Q hx hz hM hK => by
  refine lx_step hC he hx (by omega) fun σ' hx' => (s2_op hx' hk hk2).mono fun u σ9 hy => ?_
  obtain ⟨rfl, e9, -, h1, h2⟩ := Qv_s hy
  refine ⟨e9, ?_⟩
  have cs : (∃ w, rO2 k x y = .ok [w]) ∨ rO2 k x y = .error 1 := by
    unfold rO2
    repeat' split
    all_goals first
      | exact Or.inl ⟨_, rfl⟩
      | exact Or.inr rfl
  rcases cs with ⟨w, e⟩ | e
  · rw [e] at hK
    exact (show kRo d σ0 A ((b, rt) :: F) (p + 1) z Q s [w] from hK) σ9 (v + 1) (h1 w e) (by omega)
  · rw [e] at hK
    exact lx_err hC.1 (h2 1 e) (by decide) (by decide) ((show kRb Q σ0 s 1 from hK) σ9 (h2 1 e) (by decide) (by decide))
theorem t_call1 {D : List FD} {Cc : Nat → List Int32 → rwS → rR} {K f : Nat} {y0 z0 : Int32} {vs : List Int32} (hC : XC σ0 C) (hX : CLX d σ0 ((b, rt) :: F) K D Cc) (he : C[p]? = some (2, lN f, y0, z0)) (hf : f < D.length) (hv : vsP D f 0 (tkD D f) s.1.length vs) (hs : stO s) (hl : A.length + 188 * K ≤ 12000) : EZ d σ0 ((b, rt) :: F) (vs.reverse ++ A) A s p (p + 1) 1 (Cc f vs s) := fun σ v z Q hx hz hM hK => by
  have pl := (List.getElem?_eq_some_iff.mp he).1
  have c3 := hC.2.2.1
  exact lx_step hC he hx (by omega) fun σ' hx' => s2_call hx' (hX f vs A s (p + 1) (p + 1) (v + 1) z Q σ' (d + 1) hf hv hs hl (by omega) hx' (by omega) hM hK)
theorem t_do1 {D : List FD} {Cc : Nat → List Int32 → rwS → rR} {K f : Nat} {x0 : Int64} {y0 z0 u : Int32} (hC : XC σ0 C) (hX : CLX d σ0 ((b, rt) :: F) K D Cc) (he : C[p]? = some (6, x0, y0, z0)) (hf : f < D.length) (hv : vsP D f 0 (tkD D f) s.1.length [u]) (hs : stO s) (hl : A.length + 188 * K ≤ 12000) : EZ d σ0 ((b, rt) :: F) (u :: nI f :: A) A s p (p + 1) 1 (Cc f [u] s) := fun σ v z Q hx hz hM hK => by
  have pl := (List.getElem?_eq_some_iff.mp he).1
  have c3 := hC.2.2.1
  exact lx_step hC he hx (by omega) fun σ' hx' => s2_do hx' fun σ2 hx2 => hX f [u] A s (p + 1) (p + 1) (v + 1) z Q σ2 (d + 1) hf hv hs hl (by omega) hx2 (by omega) hM hK
end EZt
