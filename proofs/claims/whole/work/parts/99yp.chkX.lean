/-! THE CLASS judges: its stacks -/
/-- a NAME around: where, size; its place on the stack, its TYPE -/
abbrev pE1 : Type := (Nat × Nat) × Nat × Nat
def fkCC (c _ : Nat) : Bool := (Nat.ble 93 c && Nat.ble c 97) || Nat.beq c 85
def fkKT (c j : Nat) : Bool := (Nat.beq c 93 && Nat.beq j 2) || Nat.beq c 94
def fkKB (c j : Nat) : Bool := (Nat.beq c 93 && Nat.beq j 5) || Nat.beq c 95 || Nat.beq c 96
def fkKQ (c j : Nat) : Bool := (Nat.beq c 93 && Nat.beq j 7) || Nat.beq c 97
def fkKF (c j : Nat) : Bool := Nat.beq c 93 && Nat.beq j 8
def KG (t : Nat → UInt8) (n : Nat) (D : List FD) (σ0 : fkS) (C : List cdE) (σ : fkS) : Prop := CR C σ ∧ dR t D σ ∧ σ.1 75 0 = nI D.length ∧ D.length ≤ 20 ∧ (∀ q ∈ D, okD t n q) ∧ σ.2.2 = σ0.2.2 ∧ σ0.2.2 93 0 = 76 ∧ Fr fkCC σ0 σ
/-- TYPES, the upmost first -/
def KT (Ts : List Nat) (σ : fkS) : Prop := σ.1 93 2 = nI Ts.length ∧ Ts.length ≤ 2000 ∧ (∀ i v, Ts.reverse[i]? = some v → σ.1 94 i = nI v) ∧ ∀ v ∈ Ts, v ≤ 3
/-- NAMES around, the innermost first -/
def KB (t : Nat → UInt8) (n : Nat) (pe : List pE1) (σ : fkS) : Prop := σ.1 93 5 = nI pe.length ∧ pe.length ≤ 100 ∧ (∀ i q, pe.reverse[i]? = some q → σ.2.1 95 i = wv t q.1.1 q.1.2 ∧ σ.1 96 i = nI q.2.1) ∧ ∀ q ∈ pe, nmOK t n q.1.1 q.1.2 ∧ q.2.1 < 2000
/-- TYPES of first parts -/
def KQ (Ps : List Nat) (σ : fkS) : Prop := σ.1 93 7 = nI Ps.length ∧ Ps.length ≤ 40 ∧ (∀ i v, Ps.reverse[i]? = some v → σ.1 97 i = nI v) ∧ ∀ v ∈ Ps, v ≤ 3
def KF (w : Option Nat) (σ : fkS) : Prop := σ.1 93 8 = flt w ∧ ∀ a, w = some a → a ≤ 4000
def KZ (t : Nat → UInt8) (n : Nat) (D : List FD) (σ0 : fkS) (C : List cdE) (Ts : List Nat) (pe : List pE1) (Ps : List Nat) (w : Option Nat) (σ : fkS) : Prop := KG t n D σ0 C σ ∧ KT Ts σ ∧ KB t n pe σ ∧ KQ Ps σ ∧ KF w σ
section KXR
variable {t : Nat → UInt8} {n d : Nat} {D : List FD} {σ0 σ σ' : fkS} {C : List cdE} {Ts Ps : List Nat} {pe : List pE1} {w : Option Nat}
theorem rev_last {α : Type} {x : α} {L : List α} {i : Nat} {v : α} (h : (x :: L).reverse[i]? = some v) : (i < L.length ∧ L.reverse[i]? = some v) ∨ (i = L.length ∧ v = x) := by
  rw [List.reverse_cons] at h
  rcases Nat.lt_or_ge i L.length with c | c
  · rw [List.getElem?_append_left (by rw [List.length_reverse]; exact c)] at h
    exact Or.inl ⟨c, h⟩
  · have hi := (List.getElem?_eq_some_iff.mp h).1
    rw [List.length_append, List.length_reverse] at hi
    have e1 : [x].length = 1 := rfl
    have hi2 : i = L.length := by omega
    rw [List.getElem?_append_right (by rw [List.length_reverse]; exact c), List.length_reverse, hi2, Nat.sub_self] at h
    exact Or.inr ⟨hi2, (Option.some.inj h).symm⟩
theorem rev_at {α : Type} (x : α) (L : List α) : (x :: L).reverse[L.length]? = some x := by
  rw [List.reverse_cons, List.getElem?_append_right (by rw [List.length_reverse]; exact Nat.le_refl _), List.length_reverse, Nat.sub_self]
  rfl
theorem rev_in {α : Type} {M L : List α} {i : Nat} {v : α} (h : L.reverse[i]? = some v) : (M ++ L).reverse[i]? = some v := by
  rw [List.reverse_append, List.getElem?_append_left (List.getElem?_eq_some_iff.mp h).1]
  exact h
theorem KG.fr {S : Nat → Nat → Bool} (h : KG t n D σ0 C σ) (hr : σ'.2.2 = σ.2.2) (hf : Fr S σ σ') (hs : ∀ c j, S c j = true → 93 ≤ c ∧ c ≤ 97) : KG t n D σ0 C σ' := by
  obtain ⟨h1, h2, h3, h4, h5, h6, h7, h8⟩ := h
  have no : ∀ c j, c < 93 → S c j = false := fun c j hc => Bool.eq_false_iff.mpr fun z => by have := (hs c j z).1; omega
  refine ⟨h1.fg hf (no _ _ (by decide)) (fun j => no _ j (by decide)) (fun j => no _ j (by decide)) (fun j => no _ j (by decide)) (fun j => no _ j (by decide)), fun i q hq => ?_, (hf 75 0 (no _ _ (by decide))).1.trans h3, h4, h5, hr.trans h6, h7, h8.tr (hf.mono fun c j z => ?_)⟩
  · obtain ⟨a1, a2, a3, a4, a5, a6, a7⟩ := h2 i q hq
    refine ⟨(hf 76 i (no _ _ (by decide))).2.1.trans a1, (hf 77 i (no _ _ (by decide))).1.trans a2, (hf 78 i (no _ _ (by decide))).1.trans a3, (hf 79 i (no _ _ (by decide))).1.trans a4, (hf 80 i (no _ _ (by decide))).1.trans a5, a6, fun k a ha => ?_⟩
    obtain ⟨b1, b2, b3⟩ := a7 k a ha
    exact ⟨(hf 81 _ (no _ _ (by decide))).2.1.trans b1, (hf 82 _ (no _ _ (by decide))).1.trans b2, (hf 83 _ (no _ _ (by decide))).1.trans b3⟩
  · have := hs c j z
    unfold fkCC
    rw [Nat.ble_eq.mpr this.1, Nat.ble_eq.mpr this.2]
    rfl
theorem KT.fr {S : Nat → Nat → Bool} (h : KT Ts σ) (hf : Fr S σ σ') (h2 : S 93 2 = false) (h94 : ∀ j, S 94 j = false) : KT Ts σ' := ⟨(hf 93 2 h2).1.trans h.1, h.2.1, fun i v hv => (hf 94 i (h94 i)).1.trans (h.2.2.1 i v hv), h.2.2.2⟩
theorem KB.fr {S : Nat → Nat → Bool} (h : KB t n pe σ) (hf : Fr S σ σ') (h5 : S 93 5 = false) (h95 : ∀ j, S 95 j = false) (h96 : ∀ j, S 96 j = false) : KB t n pe σ' := ⟨(hf 93 5 h5).1.trans h.1, h.2.1, fun i q hq => ⟨(hf 95 i (h95 i)).2.1.trans (h.2.2.1 i q hq).1, (hf 96 i (h96 i)).1.trans (h.2.2.1 i q hq).2⟩, h.2.2.2⟩
theorem KQ.fr {S : Nat → Nat → Bool} (h : KQ Ps σ) (hf : Fr S σ σ') (h7 : S 93 7 = false) (h97 : ∀ j, S 97 j = false) : KQ Ps σ' := ⟨(hf 93 7 h7).1.trans h.1, h.2.1, fun i v hv => (hf 97 i (h97 i)).1.trans (h.2.2.1 i v hv), h.2.2.2⟩
theorem KF.fr {S : Nat → Nat → Bool} (h : KF w σ) (hf : Fr S σ σ') (h8 : S 93 8 = false) : KF w σ' := ⟨(hf 93 8 h8).1.trans h.1, h.2⟩
theorem fkKT_in {c j : Nat} (h : fkKT c j = true) : 93 ≤ c ∧ c ≤ 97 := by
  unfold fkKT at h; simp only [Bool.or_eq_true, Bool.and_eq_true, Nat.beq_eq] at h; omega
theorem fkKB_in {c j : Nat} (h : fkKB c j = true) : 93 ≤ c ∧ c ≤ 97 := by
  unfold fkKB at h; simp only [Bool.or_eq_true, Bool.and_eq_true, Nat.beq_eq] at h; omega
theorem fkKQ_in {c j : Nat} (h : fkKQ c j = true) : 93 ≤ c ∧ c ≤ 97 := by
  unfold fkKQ at h; simp only [Bool.or_eq_true, Bool.and_eq_true, Nat.beq_eq] at h; omega
theorem fkKF_in {c j : Nat} (h : fkKF c j = true) : 93 ≤ c ∧ c ≤ 97 := by
  unfold fkKF at h; simp only [Bool.and_eq_true, Nat.beq_eq] at h; omega
theorem KZ.tt {Ts' : List Nat} (h : KZ t n D σ0 C Ts pe Ps w σ) (hr : σ'.2.2 = σ.2.2) (hf : Fr fkKT σ σ') (hT : KT Ts' σ') : KZ t n D σ0 C Ts' pe Ps w σ' := ⟨h.1.fr hr hf (fun _ _ z => fkKT_in z), hT, h.2.2.1.fr hf rfl (fun _ => rfl) (fun _ => rfl), h.2.2.2.1.fr hf rfl (fun _ => rfl), h.2.2.2.2.fr hf rfl⟩
theorem KZ.bb {pe' : List pE1} (h : KZ t n D σ0 C Ts pe Ps w σ) (hr : σ'.2.2 = σ.2.2) (hf : Fr fkKB σ σ') (hB : KB t n pe' σ') : KZ t n D σ0 C Ts pe' Ps w σ' := ⟨h.1.fr hr hf (fun _ _ z => fkKB_in z), h.2.1.fr hf rfl (fun _ => rfl), hB, h.2.2.2.1.fr hf rfl (fun _ => rfl), h.2.2.2.2.fr hf rfl⟩
theorem KZ.pp {Ps' : List Nat} (h : KZ t n D σ0 C Ts pe Ps w σ) (hr : σ'.2.2 = σ.2.2) (hf : Fr fkKQ σ σ') (hP : KQ Ps' σ') : KZ t n D σ0 C Ts pe Ps' w σ' := ⟨h.1.fr hr hf (fun _ _ z => fkKQ_in z), h.2.1.fr hf rfl (fun _ => rfl), h.2.2.1.fr hf rfl (fun _ => rfl) (fun _ => rfl), hP, h.2.2.2.2.fr hf rfl⟩
theorem KZ.ff {w' : Option Nat} (h : KZ t n D σ0 C Ts pe Ps w σ) (hr : σ'.2.2 = σ.2.2) (hf : Fr fkKF σ σ') (hF : KF w' σ') : KZ t n D σ0 C Ts pe Ps w' σ' := ⟨h.1.fr hr hf (fun _ _ z => fkKF_in z), h.2.1.fr hf rfl (fun _ => rfl), h.2.2.1.fr hf rfl (fun _ => rfl) (fun _ => rfl), h.2.2.2.1.fr hf rfl (fun _ => rfl), hF⟩
theorem KZ.re (h : KZ t n D σ0 C Ts pe Ps w σ) {C' : List cdE} {Ts' Ps' : List Nat} {pe' : List pE1} {w' : Option Nat} (h' : KZ t n D σ0 C' Ts' pe' Ps' w' σ') : σ'.2.2 = σ.2.2 := h'.1.2.2.2.2.2.1.trans h.1.2.2.2.2.2.1.symm
theorem KZ.r0 (h : KZ t n D σ0 C Ts pe Ps w σ) : σ.2.2 93 0 = 76 := by rw [h.1.2.2.2.2.2.1]; exact h.1.2.2.2.2.2.2.1
theorem z_push {v : Nat} {x : Int32} (hx : x = nI v) (h : KZ t n D σ0 C Ts pe Ps w σ) (hl : Ts.length < 2000) (hv : v ≤ 3) : Dv d 208 [.ref 93, .int x] σ (fun σ' => KZ t n D σ0 C (v :: Ts) pe Ps w σ') := by
  subst hx
  obtain ⟨k1, k2, k3, k4⟩ := h.2.1
  have ck : (nI Ts.length).toNatClampNeg = Ts.length := nI_clamp (by omega)
  refine S_Checker_push ?_
  rw [k1, ck, (nI_succ Ts.length).symm]
  refine ⟨fun y => absurd y (nI_ge (a := Ts.length) (b := 2000) hl (by decide)), fun _ => ⟨vp_in_nI hl (by decide), rfl, ?_⟩⟩
  refine h.tt rfl ((Fr.rf.sI (by unfold fkKT; simp)).sI rfl) ⟨sI_ss, hl, fun i u hu => ?_, fun u hu => ?_⟩
  · rcases rev_last hu with ⟨c, hu⟩ | ⟨c, hu⟩
    · exact (congrFun (sI_o (by decide)) i).trans ((sI_so (by omega)).trans (k3 i u hu))
    · subst hu
      rw [c]
      exact (congrFun (sI_o (by decide)) _).trans sI_ss
  · rcases List.mem_cons.mp hu with rfl | hu
    · exact hv
    · exact k4 u hu
theorem z_pop {v : Nat} (h : KZ t n D σ0 C (v :: Ts) pe Ps w σ) : Di d 211 [.ref 93] σ (fun x σ' => x = nI v ∧ KZ t n D σ0 C Ts pe Ps w σ') := by
  obtain ⟨k1, k2, k3, k4⟩ := h.2.1
  have k2' : Ts.length + 1 ≤ 2000 := k2
  have e1 : nI (v :: Ts).length - 1 = nI Ts.length := by
    rw [List.length_cons, show (1 : Int32) = nI 1 from rfl, nI_sub (by omega), Nat.add_sub_cancel]
  have ck : (nI Ts.length).toNatClampNeg = Ts.length := nI_clamp (by omega)
  refine S_Checker_pop ?_
  rw [k1, e1, ck, k3 Ts.length v (rev_at v Ts)]
  refine ⟨fun _ => ⟨vp_in_nI (by omega) (by decide), rfl, rfl, ?_⟩, fun y => absurd (nI_lt (a := 0) (by rw [List.length_cons]; omega) (by rw [List.length_cons]; omega)) y⟩
  exact h.tt rfl (Fr.rf.sI rfl) ⟨sI_ss, by omega, fun i u hu => (congrFun (sI_o (by decide)) i).trans (k3 i u (rev_in (M := [v]) hu)), fun u hu => k4 u (List.mem_cons_of_mem _ hu)⟩
theorem z_drop {L : List Nat} {x : Int32} (hx : x = nI L.length) (h : KZ t n D σ0 C (L ++ Ts) pe Ps w σ) : Dv (d + 1) 216 [.ref 93, .int x] σ (fun σ' => KZ t n D σ0 C Ts pe Ps w σ') := by
  subst hx
  obtain ⟨k1, k2, k3, k4⟩ := h.2.1
  rw [List.length_append] at k1 k2
  have e1 : nI (L.length + Ts.length) - nI L.length = nI Ts.length := by
    rw [nI_sub (by omega), Nat.add_sub_cancel_left]
  have e2 : (if (0 : Int32) < nI Ts.length then nI Ts.length else (0 : Int32)) = nI Ts.length := by
    rcases Nat.eq_zero_or_pos Ts.length with c | c
    · rw [c]; rfl
    · exact if_pos (nI_lt (a := 0) c (by omega))
  refine S_Checker_drop ?_
  rw [k1, e1, e2]
  exact ⟨rfl, h.tt rfl (Fr.rf.sI rfl) ⟨sI_ss, by omega, fun i u hu => (congrFun (sI_o (by decide)) i).trans (k3 i u (rev_in hu)), fun u hu => k4 u (List.mem_append_right _ hu)⟩⟩
theorem z_bind {a z s ty : Nat} {x : Int64} {y : Int32} (hx : x = wv t a z) (hy : y = nI s) (h : KZ t n D σ0 C Ts pe Ps w σ) (hl : pe.length < 100) (ho : nmOK t n a z) (hs : s < 2000) : Dv d 209 [.ref 93, .long x, .int y] σ (fun σ' => KZ t n D σ0 C Ts (((a, z), s, ty) :: pe) Ps w σ') := by
  subst hx
  subst hy
  obtain ⟨k1, k2, k3, k4⟩ := h.2.2.1
  have ck : (nI pe.length).toNatClampNeg = pe.length := nI_clamp (by omega)
  refine S_Checker_bind ?_
  rw [k1, ck, (nI_succ pe.length).symm]
  refine ⟨fun y => absurd y (nI_ge (a := pe.length) (b := 100) hl (by decide)), fun _ => ⟨vp_in_nI hl (by decide), vp_in_nI hl (by decide), rfl, ?_⟩⟩
  refine h.bb rfl (((Fr.rf.sL (by unfold fkKB; simp)).sI (by unfold fkKB; simp)).sI rfl) ⟨sI_ss, hl, fun i q hq => ?_, fun q hq => ?_⟩
  · rcases rev_last hq with ⟨c, hq⟩ | ⟨c, hq⟩
    · exact ⟨(sL_so (by omega)).trans (k3 i q hq).1, (congrFun (sI_o (by decide)) i).trans ((sI_so (by omega)).trans (k3 i q hq).2)⟩
    · subst hq
      rw [c]
      exact ⟨sL_ss, (congrFun (sI_o (by decide)) _).trans sI_ss⟩
  · rcases List.mem_cons.mp hq with rfl | hq
    · exact ⟨ho, hs⟩
    · exact k4 q hq
theorem z_note {p : Nat} {x : Int32} (hx : x = nI p) (h : KZ t n D σ0 C Ts pe Ps w σ) (hp : p ≤ 4000) : Dv d 206 [.ref 93, .int x] σ (fun σ' => KZ t n D σ0 C Ts pe Ps (m2 w (some p)) σ') := by
  subst hx
  obtain ⟨k1, k2⟩ := h.2.2.2.2
  have hw := flt_lt k2
  refine S_Checker_note ?_
  rw [k1]
  have st : ∀ b, b ≤ 4000 → m2 w (some p) = some b → b = p → KZ t n D σ0 C Ts pe Ps (m2 w (some p)) (sI σ 93 8 (nI p)) := by
    intro b hb e1 e2
    subst e2
    exact h.ff rfl (Fr.rf.sI rfl) ⟨by rw [e1]; exact sI_ss, fun a ha => by rw [e1] at ha; cases ha; exact hb⟩
  cases w with
  | none => exact ⟨fun _ => ⟨rfl, st p hp rfl rfl⟩, fun y => absurd (hw.2.mpr rfl) y⟩
  | some a =>
    have ha := k2 a rfl
    refine ⟨fun y => absurd (hw.2.mp y) (by simp), fun _ => ⟨fun y => ⟨rfl, ?_⟩, fun y => ⟨rfl, ?_⟩⟩⟩
    · have c : a ≤ p := by
        rcases Nat.lt_or_ge p a with c | c
        · exact absurd y (nI_ge c (by omega))
        · exact c
      have e1 : m2 (some a) (some p) = some a := congrArg some (Nat.min_eq_left c)
      rw [e1]
      exact h
    · have c : p ≤ a := by
        rcases Nat.lt_or_ge a p with c | c
        · exact absurd (nI_le (Nat.le_of_lt c) (by omega)) y
        · exact c
      exact st p hp (congrArg some (Nat.min_eq_right c)) rfl
/-- an E must be of TYPE y -/
theorem z_want {x y p : Nat} {v q : Int32} (hv : v = nI y) (hq : q = nI p) (h : KZ t n D σ0 C (x :: Ts) pe Ps w σ) (hy : y ≤ 3) (hp : p ≤ 4000) : Dv (d + 1) 210 [.ref 93, .int v, .int q] σ (fun σ' => KZ t n D σ0 C (y :: Ts) pe Ps (m2 w (exQ x y p)) σ') := by
  subst hv
  subst hq
  have x3 : x ≤ 3 := h.2.1.2.2.2 x List.mem_cons_self
  have l1 : Ts.length < 2000 := h.2.1.2.1
  refine S_Checker_want (yI rfl (z_pop h) fun x2 σ1 ⟨hx, h1⟩ w1 => ?_)
  subst hx
  rw [w1]
  have z0 : ∀ a : Nat, a ≤ 3 → (nI a = 0 ↔ a = 0) := fun a ha => nI_eq (b := 0) (by omega) (by decide)
  rw [z0 _ x3, z0 _ hy, nI_eq (by omega) (by omega)]
  have no : ¬ (x ≠ 0 ∧ y ≠ 0 ∧ x ≠ y) → Dv d 208 [.ref 93, .int (nI y)] σ1 (fun σ3 => Qv (fun σ' => σ'.2.2 = σ.2.2 ∧ KZ t n D σ0 C (y :: Ts) pe Ps (m2 w (exQ x y p)) σ') none (sW σ3 σ)) := by
    intro c
    refine yV (h.re h1) (z_push rfl h1 l1 hy) fun σ3 h3 w3 => ?_
    rw [w3]
    unfold exQ
    rw [if_neg c, m2_n]
    exact ⟨h.re h3, h3⟩
  refine ⟨fun q => no fun c => c.2.2 q, fun q3 => ⟨fun q => no fun c => c.1 q, fun q1 => ⟨fun q => no fun c => c.2.1 q, fun q2 => ?_⟩⟩⟩
  refine yV (h.re h1) (z_note rfl h1 hp) fun σ2 h2 w2 => ?_
  rw [w2]
  refine yV (h.re h2) (z_push rfl h2 l1 hy) fun σ3 h3 w3 => ?_
  show (sW σ3 σ).2.2 = σ.2.2 ∧ _
  rw [w3]
  unfold exQ
  rw [if_pos ⟨q1, q2, q3⟩]
  exact ⟨h.re h3, h3⟩
/-- where a NAME stands -/
theorem z_slot {a z : Nat} {x : Int64} (hx : x = wv t a z) (h : KZ t n D σ0 C Ts pe Ps w σ) (ho : nmOK t n a z) : Di d 214 [.ref 93, .long x] σ (fun v σ' => σ' = σ ∧ v = onI (lk (pe.map fun q => (nmT t q.1.1 q.1.2, q.2.1)) (nmT t a z))) := by
  subst hx
  obtain ⟨k1, k2, k3, k4⟩ := h.2.2.1
  have key : ∀ (L : List pE1), L.length ≤ 100 → (∀ i q, L.reverse[i]? = some q → σ.2.1 95 i = wv t q.1.1 q.1.2 ∧ σ.1 96 i = nI q.2.1) → (∀ q ∈ L, nmOK t n q.1.1 q.1.2 ∧ q.2.1 < 2000) → Wq 214 d 7 [some (.ref 93), some (.long (wv t a z)), none, some (.int (nI L.length - 1))] [] σ (Qi fun v σ' => σ'.2.2 = σ.2.2 ∧ σ' = σ ∧ v = onI (lk (L.map fun q => (nmT t q.1.1 q.1.2, q.2.1)) (nmT t a z))) := by
    intro L
    induction L with
    | nil =>
      intro _ _ _
      exact S_Checker_slotOf_7 ⟨fun _ => ⟨rfl, rfl, rfl⟩, fun y => absurd (by decide) y⟩
    | cons q L ih =>
      intro hl hr hm
      have hl' : L.length + 1 ≤ 100 := hl
      have el : nI (q :: L).length - 1 = nI L.length := by
        rw [List.length_cons, show (1 : Int32) = nI 1 from rfl, nI_sub (by omega), Nat.add_sub_cancel]
      have cj : (nI L.length).toNatClampNeg = L.length := nI_clamp (by omega)
      obtain ⟨b1, b2⟩ := hr L.length q (rev_at q L)
      rw [el]
      refine S_Checker_slotOf_7 ?_
      rw [cj, b1, b2, lg_0, wv_iff (hm q List.mem_cons_self).1 ho]
      refine ⟨fun y => absurd y (nI_pos (by omega)), fun _ => ⟨vp_in_nI (by omega) (by decide), fun c => ?_, fun c => ⟨vp_in_nI (by omega) (by decide), rfl, rfl, ?_⟩⟩⟩
      · have em : nI L.length + (-1 : Int32) = nI L.length - 1 := (Int32.sub_eq_add_neg _ _).symm
        rw [em, List.map_cons, lk, if_neg c]
        exact ih (by omega) (fun i r hi => hr i r (rev_in (M := [q]) hi)) (fun r hr => hm r (List.mem_cons_of_mem _ hr))
      · rw [List.map_cons, lk, if_pos c]; rfl
  refine S_Checker_slotOf ?_
  rw [k1]
  exact key pe k2 k3 k4
/-- which FUNCTION -/
theorem z_find {a z : Nat} {x : Int64} (hx : x = wv t a z) (h : KG t n D σ0 C σ) (ho : nmOK t n a z) : Di d 205 [.ref 75, .long x] σ (fun v σ' => σ' = σ ∧ v = onI (fnI t D (nmT t a z) 0)) := by
  subst hx
  obtain ⟨-, h2, h3, h4, h5, -⟩ := h
  have key : ∀ (f j : Nat), f + j = D.length → Wq 205 d 2 [some (.ref 75), some (.long (wv t a z)), none, some (.int (nI j))] [] σ (Qi fun v σ' => σ'.2.2 = σ.2.2 ∧ σ' = σ ∧ v = onI (fnI t (D.drop j) (nmT t a z) j)) := by
    intro f
    induction f with
    | zero =>
      intro j hj
      refine S_Program_find_2 ?_
      rw [h3]
      refine ⟨fun _ => ⟨rfl, rfl, ?_⟩, fun y => absurd (nI_le (a := D.length) (b := j) (by omega) (by omega)) y⟩
      rw [List.drop_eq_nil_of_le (by omega)]
      rfl
    | succ f ih =>
      intro j hj
      have hq : D[j]? = some D[j] := List.getElem?_eq_getElem (by omega)
      obtain ⟨a1, -⟩ := h2 j _ hq
      have o := (h5 _ (List.mem_of_getElem? hq)).1
      have cj : (nI j).toNatClampNeg = j := nI_clamp (by omega)
      have ed : D.drop j = D[j] :: D.drop (j + 1) := List.drop_eq_getElem_cons (by omega)
      refine S_Program_find_2 ?_
      rw [h3, cj, a1, lg_0, wv_iff o ho, (nI_succ j).symm, ed, fnI]
      refine ⟨fun y => absurd y (nI_ge (a := j) (b := D.length) (by omega) (by omega)), fun _ => ⟨vp_in_nI (by omega) (by decide), fun c => ?_, fun c => ⟨rfl, rfl, ?_⟩⟩⟩
      · rw [if_neg c]; exact ih (j + 1) (by omega)
      · rw [if_pos c]; rfl
  exact S_Program_find (key D.length 0 rfl)
end KXR
