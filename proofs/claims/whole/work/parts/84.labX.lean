/-! THE JUDGE OF A FUNCTION: labels; the class -/
def opC (C : List In) (o : Nat) : Nat := ((C[o]?).map iOp).getD 0
theorem opC_get {C : List In} {o : Nat} {i : In} (h : C[o]? = some i) : opC C o = iOp i := by
  unfold opC
  rw [h]
  rfl
/-- the INSTRUCTION that ends the part which begins at x -/
def cloP (C : List In) (x n : Nat) : Bool := (decide (opC C n = 5) || decide (opC C n = 11)) && decide ((sk C n).head?.map Prod.snd = some x)
def nx (C : List In) (x : Nat) : Nat := ((List.range C.length).find? (cloP C x)).getD 0
def clo (C : List In) (x : Nat) : Prop := ∃ n, n < C.length ∧ cloP C x n = true
theorem nx_get {C : List In} {x : Nat} (h : clo C x) : nx C x < C.length ∧ (opC C (nx C x) = 5 ∨ opC C (nx C x) = 11) ∧ ∃ o r, sk C (nx C x) = (o, x) :: r := by
  obtain ⟨n, hn, hp⟩ := h
  cases hf : (List.range C.length).find? (cloP C x) with
  | none =>
    have := List.find?_eq_none.mp hf n (List.mem_range.mpr hn)
    exact absurd hp this
  | some y =>
    have e : nx C x = y := by unfold nx; rw [hf]; rfl
    have h1 := List.find?_some hf
    have h2 := List.mem_range.mp (List.mem_of_find?_eq_some hf)
    rw [e]
    unfold cloP at h1
    simp only [Bool.and_eq_true, Bool.or_eq_true, decide_eq_true_eq] at h1
    refine ⟨h2, h1.1, ?_⟩
    cases hs : sk C y with
    | nil =>
      rw [hs] at h1
      cases h1.2
    | cons a r =>
      rw [hs] at h1
      obtain ⟨a1, a2⟩ := a
      have := h1.2
      cases this
      exact ⟨a1, r, rfl⟩
theorem clo_of {C : List In} {x : Nat} (hw : sk C C.length = []) : ∀ (r k o : Nat), k + r = C.length → (o, x) ∈ sk C k → clo C x
  | 0, k, o, hk, hm => by
    have : k = C.length := by omega
    rw [this, hw] at hm
    cases hm
  | r + 1, k, o, hk, hm => by
    have hlt : k < C.length := by omega
    have hi : C[k]? = some C[k] := List.getElem?_eq_getElem hlt
    have hop := opC_get hi
    by_cases hh : (iOp C[k] = 5 ∨ iOp C[k] = 11) ∧ (sk C k).head?.map Prod.snd = some x
    · refine ⟨k, hlt, ?_⟩
      unfold cloP
      rw [hop, decide_eq_true hh.2, Bool.and_true, Bool.or_eq_true, decide_eq_true_eq, decide_eq_true_eq]
      exact hh.1
    · refine clo_of hw r (k + 1) o (by omega) ?_
      rw [sk_succ hi]
      unfold skS
      cases hs : sk C k with
      | nil =>
        rw [hs] at hm
        cases hm
      | cons a s =>
        rw [hs] at hm hh
        split
        next h11 =>
          rcases List.mem_cons.mp hm with z | z
          · exact absurd ⟨.inr h11, by rw [← z]; rfl⟩ hh
          · exact z
        split
        next h5 =>
          rcases List.mem_cons.mp hm with z | z
          · exact absurd ⟨.inl h5, by rw [← z]; rfl⟩ hh
          · exact List.mem_cons_of_mem _ z
        split
        · exact List.mem_cons_of_mem _ hm
        · exact hm
theorem clo_open {C : List In} {o : Nat} {i : In} (hw : sk C C.length = []) (hi : C[o]? = some i) (h2 : 2 ≤ iOp i ∧ iOp i ≤ 4) : clo C o := by
  have hlt := get_lt hi
  refine clo_of hw (C.length - (o + 1)) (o + 1) o (by omega) ?_
  rw [sk_succ hi]
  unfold skS
  rw [if_neg (by omega), if_neg (by omega), if_pos h2]
  exact List.mem_cons_self
theorem clo_else {C : List In} {x : Nat} (hw : sk C C.length = []) (h : clo C x) (h5 : opC C (nx C x) = 5) : clo C (nx C x) := by
  obtain ⟨h1, -, o, r, hs⟩ := nx_get h
  have hi : C[nx C x]? = some C[nx C x] := List.getElem?_eq_getElem h1
  refine clo_of hw (C.length - (nx C x + 1)) (nx C x + 1) o (by omega) ?_
  rw [sk_succ hi, hs]
  unfold skS
  rw [opC_get hi] at h5
  rw [if_neg (by omega), if_pos h5]
  exact List.mem_cons_self
/-- the 11 of the block that begins at o -/
def endI (C : List In) (o : Nat) : Nat := if opC C (nx C o) = 5 then nx C (nx C o) else nx C o
/-- the class's rows of INSTRUCTIONS as they stay -/
def DCk (C : List In) (σ : fkS) : Prop := C.length ≤ 4000 ∧ (∀ (k : Nat) (i : In), C[k]? = some i → rowI C σ k i ∧ iOp i < 256) ∧ rSec C σ ∧ sk C C.length = []
/-- openers are openers -/
def cx (C : List In) (J : JS) : Prop := ∀ (k : Nat) (b : Bk) (o : Nat), (jB J)[k]? = some b → bkO b = some o → ∃ i, C[o]? = some i ∧ 2 ≤ iOp i ∧ iOp i ≤ 4
def jLoop (C : List In) (b : Bk) : Bool := match bkO b with
  | none => false
  | some o => decide (opC C o = 3)
def bBad (C : List In) (b : Bk) : Bool := match bkO b with
  | none => false
  | some o => decide (opC C o = 4) && decide (opC C (nx C o) = 11)
def jIx (J : JS) (lab : Nat) : Option Nat := if lab < (jB J).length then some ((jB J).length - 1 - lab) else none
def jBk (J : JS) (lab : Nat) : Option Bk := if lab < (jB J).length then (jB J)[(jB J).length - 1 - lab]? else none
def bNeed (C : List In) (b : Bk) : Nat := if jLoop C b = true then 0 else bkG b
/-- where a label's branch goes on -/
def bTgt (C : List In) (e : Nat) (b : Bk) : Nat := match bkO b with
  | none => e
  | some o => if opC C o = 3 then o + 1 else endI C o
section LABX
variable {d : Nat} {C : List In} {J : JS} {σ : fkS}
theorem DCk.op (h : DCk C σ) {o : Nat} (ho : o < C.length) : σ.1 41 o = nI (opC C o) ∧ opC C o < 256 := by
  have hi : C[o]? = some C[o] := List.getElem?_eq_getElem ho
  rw [opC_get hi]
  exact ⟨(h.2.1 o _ hi).1.1, (h.2.1 o _ hi).2⟩
theorem DCk.sec (h : DCk C σ) {x : Nat} (hx : clo C x) : σ.1 43 x = nI (nx C x) := by
  obtain ⟨h1, h2, o, r, hs⟩ := nx_get hx
  have hi : C[nx C x]? = some C[nx C x] := List.getElem?_eq_getElem h1
  rw [opC_get hi] at h2
  exact h.2.2.1 _ _ o x r hi h2 hs
theorem endI_lt (hw : sk C C.length = []) {o : Nat} (ho : clo C o) : endI C o < C.length := by
  unfold endI
  split
  next h5 => exact (nx_get (clo_else hw ho h5)).1
  · exact (nx_get ho).1
theorem c_endOf (h : DCk C σ) {o : Nat} (ho : clo C o) (ho4 : o < 4000) : Di d 83 [.ref 36, .int (nI o)] σ (fun r σ' => r = nI (endI C o) ∧ σ' = σ) := by
  obtain ⟨h1, h2, -⟩ := nx_get ho
  have hC := h.1
  obtain ⟨hp, hp2⟩ := h.op h1
  refine S_CodeRows_endOf ?_
  rw [nI_clamp (by omega), h.sec ho, nI_clamp (by omega), hp]
  refine ⟨vp_in_nI ho4 (by decide), vp_in_nI (by omega) (by decide), And.comm.mp (pk_eq (opC C (nx C o)) 5 (fun z => ⟨vp_in_nI (by omega) (by decide), rfl, ?_, rfl⟩) fun z => ⟨rfl, ?_, rfl⟩)⟩
  · rw [h.sec (clo_else h.2.2.2 ho z)]
    unfold endI
    rw [if_pos z]
  · unfold endI
    rw [if_neg z]
theorem c_blockOf {l lab : Nat} (h : rJ J σ) (h50 : σ.2.2 50 1 = 37) (hl : l < 4000) (h44 : σ.1 44 (3 * l) = nI lab) (hlab : lab < 2 ^ 32) : Di d 80 [.ref 50, .int (nI l)] σ (fun r σ' => r = (match jIx J lab with | some k => nI k | none => -1) ∧ σ' = σ) := by
  have hB : (jB J).length ≤ 22 := h.1.2.1
  have e3 : (3 : Int32) * nI l = nI (3 * l) := by rw [show (3 : Int32) = nI 3 from rfl, nI_mul]
  refine S_Judge_blockOf h50 ⟨by decide, ?_⟩
  rw [e3, nI_clamp (by omega), h44, h.2.2.2.1]
  unfold jIx
  refine ⟨vp_in_nI (by omega) (by decide), fun z => ?_, fun z => ?_⟩
  · have := (nI_neg hlab).mp z
    rw [if_neg (by omega)]
    exact ⟨rfl, rfl, rfl⟩
  · have hl31 : lab < 2 ^ 31 := Nat.not_le.mp fun y => z ((nI_neg hlab).mpr y)
    refine pk_lt lab (jB J).length (fun y => ?_) fun y => ?_
    · rw [if_pos y]
      refine ⟨rfl, ?_, rfl⟩
      rw [show (1 : Int32) = nI 1 from rfl, nI_sub (by omega), nI_sub (by omega)]
    · rw [if_neg (by omega)]
      exact ⟨rfl, rfl, rfl⟩
theorem c_isLoop {k : Nat} {b : Bk} (h : rJ J σ) (h50 : σ.2.2 50 1 = 37) (hD : DCk C σ) (hc : cx C J) (hb : (jB J)[k]? = some b) : Di d 81 [.ref 50, .int (nI k)] σ (fun r σ' => r = b2i (jLoop C b) ∧ σ' = σ) := by
  have hB : (jB J).length ≤ 22 := h.1.2.1
  have hk := get_lt hb
  obtain ⟨b1, b2, b3, b4⟩ := h.2.2.2.2.1 k b hb
  have vk : vp_in (nI k) 22 := vp_in_nI (by omega) (by decide)
  refine S_Judge_isLoop h50 ⟨vk, ?_⟩
  rw [nI_clamp (by omega), b1]
  unfold jLoop
  cases ho : bkO b with
  | none => exact ⟨fun _ => ⟨rfl, rfl, rfl⟩, fun z => absurd (by decide) z⟩
  | some o =>
    have ho4 : o < 4000 := (h.1.2.2.2.1 k b hb).2.2 o ho
    obtain ⟨i, hi, -⟩ := hc k b o hb ho
    obtain ⟨hp, hp2⟩ := hD.op (get_lt hi)
    have vo : vp_in (oI (some o)) 4000 := vp_in_nI ho4 (by decide)
    have co : (oI (some o)).toNatClampNeg = o := nI_clamp (by omega)
    rw [co, hp]
    refine ⟨fun z => absurd z (nI_pos (n := o) (by omega)), fun _ => ⟨by decide, vk, vo, And.comm.mp (pk_eq (opC C o) 3 (fun z => ⟨rfl, ?_, rfl⟩) fun z => ⟨rfl, ?_, rfl⟩)⟩⟩
    · show 1 = b2i (decide (opC C o = 3))
      rw [decide_eq_true z]
      rfl
    · show 0 = b2i (decide (opC C o = 3))
      rw [decide_eq_false z]
      rfl
theorem jIx_bk {lab : Nat} (h : jBk J lab = none) : jIx J lab = none := by
  unfold jBk at h
  unfold jIx
  split
  next z =>
    rw [if_pos z, List.getElem?_eq_getElem (by omega)] at h
    cases h
  · rfl
theorem jIx_some {lab : Nat} {b : Bk} (h : jBk J lab = some b) : ∃ k, jIx J lab = some k ∧ (jB J)[k]? = some b ∧ k + 1 + lab = (jB J).length := by
  unfold jBk at h
  split at h
  next z =>
    refine ⟨_, if_pos z, h, ?_⟩
    omega
  · cases h
theorem c_labelGives {l lab : Nat} (h : rJ J σ) (h50 : σ.2.2 50 1 = 37) (hD : DCk C σ) (hc : cx C J) (hl : l < 4000) (h44 : σ.1 44 (3 * l) = nI lab) (hlab : lab < 2 ^ 32) : Di (d + 1) 79 [.ref 50, .int (nI l)] σ (fun r σ' => match jBk J lab with
    | some b => r = nI (bNeed C b) ∧ σ' = σ
    | none => r = 0 ∧ PJ (jBad J) σ σ') := by
  have hB : (jB J).length ≤ 22 := h.1.2.1
  refine S_Judge_labelGives ((c_blockOf h h50 hl h44 hlab).mono fun x σ1 hx => ?_)
  obtain ⟨r, rfl, e1, hr, hs⟩ := Qi_s hx
  subst hr
  rw [hs]
  refine ⟨rfl, ?_⟩
  cases hj : jBk J lab with
  | none =>
    rw [jIx_bk hj]
    exact ⟨fun z => absurd z (by decide), fun _ => ⟨rfl, rfl, PJ.g h false⟩⟩
  | some b =>
    obtain ⟨k, hk, hkb, hkl⟩ := jIx_some hj
    obtain ⟨b1, b2, b3, b4⟩ := h.2.2.2.2.1 k b hkb
    rw [hk]
    refine ⟨fun _ => ?_, fun z => absurd (nI_pos' (by omega)) z⟩
    refine (c_isLoop h h50 hD hc hkb).mono fun x σ1 hx => ?_
    obtain ⟨r, rfl, e1, hr, hs⟩ := Qi_s hx
    subst hr
    rw [hs]
    unfold bNeed
    refine ⟨rfl, fun z => ⟨vp_in_nI (by omega) (by decide), rfl, ?_, rfl⟩, fun z => ⟨rfl, ?_, rfl⟩⟩
    · rw [b2i_0.mp z]
      show σ.1 54 (nI k).toNatClampNeg = nI (bkG b)
      rw [nI_clamp (by omega)]
      exact b3
    · have : jLoop C b = true := by
        cases hg : jLoop C b with
        | true => rfl
        | false => exact absurd (b2i_0.mpr hg) z
      rw [this]
      rfl
end LABX
