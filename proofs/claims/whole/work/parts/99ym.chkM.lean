/-! THE REFERENCE judges a PROGRAM -/
theorem tr_ind2 {P : Tr → Prop} (h0 : P .leaf) (h1 : ∀ k a b c d l r, P l → P r → (∀ k2 a2 b2 c2 d2 x y, r = nd k2 a2 b2 c2 d2 x y → P x ∧ P y) → P (nd k a b c d l r)) : ∀ T, P T := by
  have key : ∀ T : Tr, P T ∧ ∀ k2 a2 b2 c2 d2 x y, T = nd k2 a2 b2 c2 d2 x y → P x ∧ P y := by
    refine tr_ind ⟨h0, fun _ _ _ _ _ _ _ e => by cases e⟩ (fun k a b c d l r hl hr _ => ⟨h1 k a b c d l r hl.1 hr.1 hr.2, fun k2 a2 b2 c2 d2 x y e => ?_⟩)
    cases e
    exact ⟨hl.1, hr.1⟩
  exact fun T => (key T).1
/-- what does not change -/
def CB (t : Nat → UInt8) (n : Nat) (D : List FD) (mm : Nat) (σ : fkS) : Prop := PTm t n σ ∧ dM D mm σ ∧ mm ≤ 3000 ∧ σ.1 103 97 = nI D.length ∧ D.length ≤ 20 ∧ ∀ q ∈ D, okD t n q
/-- the rows of the NAMES around -/
def EvR (t : Nat → UInt8) (n : Nat) (e : List (List Nat × Nat)) (σ : fkS) : Prop := ∀ i q, e.reverse[i]? = some q → ∃ a z, σ.1 177 i = nI a ∧ σ.1 178 i = nI z ∧ a + z ≤ n ∧ nmT t a z = q.1 ∧ σ.1 179 i = nI q.2
/-- the NAMES around, the fault so far -/
def CM (t : Nat → UInt8) (n : Nat) (D : List FD) (mm : Nat) (e : List (List Nat × Nat)) (w : Option Nat) (σ : fkS) : Prop := CB t n D mm σ ∧ EvR t n e σ ∧ σ.1 103 117 = nI e.length ∧ e.length ≤ 1000 ∧ (∀ q ∈ e, q.2 ≤ 3) ∧ σ.1 103 81 = flt w ∧ ∀ a, w = some a → a ≤ 4000
def fkCK (c j : Nat) : Bool := (Nat.beq c 103 && (Nat.beq j 81 || Nat.beq j 117 || Nat.beq j 118)) || Nat.beq c 177 || Nat.beq c 178 || Nat.beq c 179
section CM
variable {t : Nat → UInt8} {n d mm : Nat} {D : List FD} {e : List (List Nat × Nat)} {w : Option Nat} {σ : fkS}
theorem fkCK_no {c j : Nat} (h : (154 ≤ c ∧ c ≤ 176) ∨ (c = 103 ∧ (j = 79 ∨ j = 97))) : fkCK c j = false := by
  cases e : fkCK c j
  · rfl
  · unfold fkCK at e
    simp only [Bool.or_eq_true, Bool.and_eq_true, Nat.beq_eq] at e
    omega
theorem aM.ck {f : Nat} {L : List (Nat × Nat × Nat)} {σ' : fkS} (h : aM f L σ) (hf : Fr fkCK σ σ') : aM f L σ' := fun k a ha => by
  obtain ⟨h1, h2, h3⟩ := h k a ha
  exact ⟨(hf 161 _ (fkCK_no (by omega))).1.trans h1, (hf 162 _ (fkCK_no (by omega))).1.trans h2, (hf 163 _ (fkCK_no (by omega))).1.trans h3⟩
theorem at_ck {T : Tr} {m : Nat} {x : Int32} {lo hi : Nat} {σ' : fkS} (h : At T m x lo hi σ) (hf : Fr fkCK σ σ') : At T m x lo hi σ' := At.fr (Nat.le_refl _) (Nat.le_refl _) (fun c j a1 a2 _ _ => (hf c j (fkCK_no (by omega))).1) T m x h
theorem CB.fr {σ' : fkS} (h : CB t n D mm σ) (hf : Fr fkCK σ σ') : CB t n D mm σ' := by
  obtain ⟨h1, h2, h3, h4, h5, h6⟩ := h
  refine ⟨⟨(hf 103 79 (fkCK_no (by omega))).1.trans h1.1, fun k hk => (hf 154 k (fkCK_no (by omega))).1.trans (h1.2.1 k hk), h1.2.2⟩, fun i q hq => ?_, h3, (hf 103 97 (fkCK_no (by omega))).1.trans h4, h5, h6⟩
  obtain ⟨a1, a2, a3, a4, a5, a6, a7, a8⟩ := h2 i q hq
  refine ⟨(hf 155 i (fkCK_no (by omega))).1.trans a1, (hf 156 i (fkCK_no (by omega))).1.trans a2, (hf 157 i (fkCK_no (by omega))).1.trans a3, (hf 158 i (fkCK_no (by omega))).1.trans a4, (hf 160 i (fkCK_no (by omega))).1.trans a5, a6, a7.ck hf, ?_⟩
  rw [(hf 159 i (fkCK_no (by omega))).1]
  exact at_ck a8 hf
theorem CB.gv (h : CB t n D mm σ) : ∀ q ∈ D, q.2.2.1 ≤ 3 := fun q hq => (h.2.2.2.2.2 q hq).2.2.2.1.2
theorem nm_in {a z : Nat} (h : nmOK t n a z) : a + z ≤ n ∧ a ≤ n := by
  obtain ⟨i, -, h1, h2⟩ := h
  have := tkAt_le (t := t) (n := n) i
  omega
/-- a fault is noted -/
theorem k_at {p : Nat} (h : CM t n D mm e w σ) (hp : p ≤ 4000) : Cv d 352 [.ref 103, .int (nI p)] σ (fun σ' => CM t n D mm e (m2 w (some p)) σ' ∧ Fr fkCK σ σ') := by
  obtain ⟨h1, h2, h3, h4, h5, h6, h7⟩ := h
  have hw := flt_lt h7
  refine S_M_faultAt ?_
  rw [h6]
  have st : ∀ b, b ≤ 4000 → m2 w (some p) = some b → b = p → CM t n D mm e (m2 w (some p)) (sI σ 103 81 (nI p)) ∧ Fr fkCK σ (sI σ 103 81 (nI p)) := by
    intro b hb e1 e2
    subst e2
    have f0 : Fr fkCK σ (sI σ 103 81 (nI b)) := Fr.rf.sI rfl
    refine ⟨⟨h1.fr f0, fun i q hq => ?_, (sI_so (by decide)).trans h3, h4, h5, ?_, fun a ha => ?_⟩, f0⟩
    · obtain ⟨a, z, b1, b2, b3, b4, b5⟩ := h2 i q hq
      exact ⟨a, z, (congrFun (sI_o (by decide)) i).trans b1, (congrFun (sI_o (by decide)) i).trans b2, b3, b4, (congrFun (sI_o (by decide)) i).trans b5⟩
    · rw [e1]; exact sI_ss
    · rw [e1] at ha; cases ha; exact hb
  cases w with
  | none => exact ⟨fun _ => st p hp rfl rfl, fun y => absurd (hw.2.mpr rfl) y⟩
  | some a =>
    have ha := h7 a rfl
    refine ⟨fun y => absurd (hw.2.mp y) (by simp), fun _ => ⟨fun y => ?_, fun y => ?_⟩⟩
    · have c : a ≤ p := by
        rcases Nat.lt_or_ge p a with c | c
        · exact absurd y (nI_ge c (by omega))
        · exact c
      have e1 : m2 (some a) (some p) = some a := congrArg some (Nat.min_eq_left c)
      rw [e1]
      exact ⟨⟨h1, h2, h3, h4, h5, h6, h7⟩, Fr.rf⟩
    · have c : p ≤ a := by
        rcases Nat.lt_or_ge a p with c | c
        · exact absurd (nI_le (Nat.le_of_lt c) (by omega)) y
        · exact c
      exact st p hp (congrArg some (Nat.min_eq_right c)) rfl
theorem nmT_iff {a z b y : Nat} : nmT t a z = nmT t b y ↔ z = y ∧ ∀ j, j < z → (t (a + j)).toNat = (t (b + j)).toNat := by
  unfold nmT tw
  rw [Nat.add_sub_cancel_left, Nat.add_sub_cancel_left]
  constructor
  · intro h
    have hl := congrArg List.length h
    simp only [List.length_map, List.length_range] at hl
    subst hl
    refine ⟨rfl, fun j hj => ?_⟩
    have := List.map_inj_left.mp h j (List.mem_range.mpr hj)
    exact this
  · rintro ⟨rfl, h⟩
    exact List.map_inj_left.mpr fun j hj => h j (List.mem_range.mp hj)
/-- two NAMES are the same -/
theorem k_alike {a z b y : Nat} (h : PTm t n σ) (h1 : a + z ≤ n) (h2 : b + y ≤ n) : Ci d 351 [.ref 103, .int (nI a), .int (nI z), .int (nI b), .int (nI y)] σ (fun x s => s = σ ∧ x = if nmT t a z = nmT t b y then 1 else 0) := by
  have hn := h.2.2
  have key : ∀ (f k : Nat) (v5 : Int32), f + k = z → v5 = (if z = y ∧ ∀ j, j < k → (t (a + j)).toNat = (t (b + j)).toNat then 1 else 0) → Wq 351 d 16 [some (.ref 103), some (.int (nI a)), some (.int (nI z)), some (.int (nI b)), none, some (.int v5), some (.int (nI k))] [] σ (Qi fun x s => s = σ ∧ x = if nmT t a z = nmT t b y then 1 else 0) := by
    intro f
    induction f with
    | zero =>
      intro k v5 hf hv
      have hk : k = z := by omega
      subst hk
      have e : v5 = if nmT t a k = nmT t b y then 1 else 0 := by
        rw [hv]
        by_cases c : k = y ∧ ∀ j, j < k → (t (a + j)).toNat = (t (b + j)).toNat
        · rw [if_pos c, if_pos (nmT_iff.mpr c)]
        · rw [if_neg c, if_neg (fun q => c (nmT_iff.mp q))]
      refine S_M_isAlikeText_16 ⟨fun _ => fk_bz_i ?_ ⟨rfl, e⟩, fun q => absurd (Int32.le_refl _) q⟩
      rw [e]
      split
      · exact Or.inr rfl
      · exact Or.inl rfl
    | succ f ih =>
      intro k v5 hf hv
      refine S_M_isAlikeText_16 ⟨fun q => absurd q (nI_ge (a := k) (b := z) (by omega) (by omega)), fun _ => ⟨fun q => ?_, fun q => ?_⟩⟩
      · have c : ¬ (z = y ∧ ∀ j, j < k → (t (a + j)).toNat = (t (b + j)).toNat) := fun c => by rw [hv, if_pos c] at q; exact absurd q (by decide)
        refine fk_bz_i (Or.inl q) ⟨rfl, ?_⟩
        rw [q, if_neg fun r => c ⟨(nmT_iff.mp r).1, fun j hj => (nmT_iff.mp r).2 j (by omega)⟩]
      · have c : z = y ∧ ∀ j, j < k → (t (a + j)).toNat = (t (b + j)).toNat := Classical.byContradiction fun c => q (by rw [hv, if_neg c])
        have k1 : (nI (a + k)).toNatClampNeg = a + k := nI_clamp (by omega)
        have k2 : (nI (b + k)).toNatClampNeg = b + k := nI_clamp (by omega)
        rw [nI_add, nI_add, k1, k2, h.2.1 (a + k) (by omega), h.2.1 (b + k) (by omega), (nI_succ k).symm]
        have bi : bI (t (a + k)) = bI (t (b + k)) ↔ (t (a + k)).toNat = (t (b + k)).toNat := nI_eq (Nat.lt_of_lt_of_le (t (a + k)).toNat_lt (by decide)) (Nat.lt_of_lt_of_le (t (b + k)).toNat_lt (by decide))
        refine ⟨vp_in_nI (by omega) (by decide), vp_in_nI (by omega) (by decide), fun r => ih (k + 1) 0 (by omega) ?_, fun r => ih (k + 1) 1 (by omega) ?_⟩
        · rw [if_neg fun c2 => r (bi.mpr (c2.2 k (Nat.lt_succ_self k)))]
        · have hh : z = y ∧ ∀ j, j < k + 1 → (t (a + j)).toNat = (t (b + j)).toNat := by
            refine ⟨c.1, fun j hj => ?_⟩
            rcases Nat.lt_or_ge j k with g | g
            · exact c.2 j g
            · have : j = k := by omega
              subst this
              exact bi.mp r
          rw [if_pos hh]
  refine S_M_isAlikeText ⟨fun q => ?_, fun q => ?_⟩
  · refine key z 0 0 rfl ?_
    rw [if_neg fun c => q (by rw [c.1])]
  · refine key z 0 1 rfl ?_
    have := (nI_eq (a := z) (b := y) (by omega) (by omega)).mp q
    rw [if_pos ⟨this, fun j hj => absurd hj (Nat.not_lt_zero j)⟩]
/-- which FUNCTION -/
theorem k_fn {a z : Nat} (h : CB t n D mm σ) (h1 : a + z ≤ n) : Ci (d + 1) 358 [.ref 103, .int (nI a), .int (nI z)] σ (fun x s => s = σ ∧ x = onI (fnI t D (nmT t a z) 0)) := by
  obtain ⟨hP, hM, -, h97, h20, hok⟩ := h
  have key : ∀ (f j : Nat), f + j = D.length → Wq 358 (d + 1) 2 [some (.ref 103), some (.int (nI a)), some (.int (nI z)), some (.int (nI j))] [] σ (Qi fun x s => s = σ ∧ x = onI (fnI t (D.drop j) (nmT t a z) j)) := by
    intro f
    induction f with
    | zero =>
      intro j hj
      refine S_M_functionOf_2 ?_
      rw [h97]
      refine ⟨fun _ => ⟨rfl, ?_⟩, fun y => absurd (nI_le (a := D.length) (b := j) (by omega) (by omega)) y⟩
      rw [List.drop_eq_nil_of_le (by omega)]
      rfl
    | succ f ih =>
      intro j hj
      have hq : D[j]? = some D[j] := List.getElem?_eq_getElem (by omega)
      obtain ⟨a1, a2, -⟩ := hM j _ hq
      have o := (hok _ (List.mem_of_getElem? hq)).1
      have cj : (nI j).toNatClampNeg = j := nI_clamp (by omega)
      have ed : D.drop j = D[j] :: D.drop (j + 1) := List.drop_eq_getElem_cons (by omega)
      refine S_M_functionOf_2 ?_
      rw [h97, cj, a1, a2, (nI_succ j).symm]
      refine ⟨fun y => absurd y (nI_ge (a := j) (b := D.length) (by omega) (by omega)), fun _ => ⟨vp_in_nI (by omega) (by decide), vp_in_nI (by omega) (by decide), ?_⟩⟩
      refine vI (k_alike hP (nm_in o).1 h1) fun x s ⟨e1, e2⟩ => ?_
      subst e1
      rw [ed, fnI]
      by_cases c : nmT t D[j].1.1 D[j].1.2 = nmT t a z
      · rw [if_pos c] at e2 ⊢
        subst e2
        exact ⟨fun y => absurd y (by decide), fun _ => ⟨rfl, rfl⟩⟩
      · rw [if_neg c] at e2 ⊢
        subst e2
        exact ⟨fun _ => ih (j + 1) (by omega), fun y => absurd rfl y⟩
  exact S_M_functionOf (key D.length 0 rfl)
/-- where a NAME stands -/
theorem k_pl {a z : Nat} (h : CM t n D mm e w σ) (h1 : a + z ≤ n) : Ci (d + 1) 353 [.ref 103, .int (nI a), .int (nI z)] σ (fun x s => s = σ ∧ x = onI (plc e (nmT t a z))) := by
  obtain ⟨⟨hP, -⟩, hE, h117, h4, -⟩ := h
  have key : ∀ (e' : List (List Nat × Nat)), EvR t n e' σ → e'.length ≤ 1000 → Wq 353 (d + 1) 7 [some (.ref 103), some (.int (nI a)), some (.int (nI z)), some (.int (nI e'.length - 1))] [] σ (Qi fun x s => s = σ ∧ x = onI (plc e' (nmT t a z))) := by
    intro e'
    induction e' with
    | nil =>
      intro _ _
      exact S_M_placeOf_7 ⟨fun _ => ⟨rfl, rfl⟩, fun y => absurd (by decide) y⟩
    | cons q e' ih =>
      intro hE hl
      have hl' : e'.length < 1000 := hl
      obtain ⟨b, y, b1, b2, b3, b4, b5⟩ := hE e'.length q (by
        rw [List.reverse_cons, List.getElem?_append_right (by rw [List.length_reverse]; exact Nat.le_refl _), List.length_reverse, Nat.sub_self]
        rfl)
      have el : nI (q :: e').length - 1 = nI e'.length := by
        rw [List.length_cons, show (1 : Int32) = nI 1 from rfl, nI_sub (by omega), Nat.add_sub_cancel]
      have cj : (nI e'.length).toNatClampNeg = e'.length := nI_clamp (by omega)
      rw [el]
      refine S_M_placeOf_7 ?_
      rw [cj, b1, b2]
      refine ⟨fun y => absurd y (nI_pos (by omega)), fun _ => ⟨vp_in_nI (by omega) (by decide), vp_in_nI (by omega) (by decide), ?_⟩⟩
      refine vI (k_alike hP b3 h1) fun x s ⟨e1, e2⟩ => ?_
      subst e1
      rw [b4] at e2
      rw [plc]
      by_cases c : q.1 = nmT t a z
      · rw [if_pos c] at e2 ⊢
        subst e2
        exact ⟨fun _ => ⟨rfl, rfl⟩, fun y => absurd y (by decide)⟩
      · rw [if_neg c] at e2 ⊢
        subst e2
        refine ⟨fun y => absurd rfl y, fun _ => ?_⟩
        have em : nI e'.length + (-1 : Int32) = nI e'.length - 1 := (Int32.sub_eq_add_neg _ _).symm
        rw [em]
        exact ih (fun i r hr => hE i r (by
          rw [List.reverse_cons, List.getElem?_append_left (List.getElem?_eq_some_iff.mp hr).1]
          exact hr)) (by omega)
  refine S_M_placeOf ?_
  rw [h117]
  exact key e hE h4
/-- a NAME more -/
theorem k_bind {a z ty : Nat} (h : CM t n D mm e w σ) (hl : e.length < 1000) (h1 : a + z ≤ n) (hy : ty ≤ 3) : Cv d 354 [.ref 103, .int (nI a), .int (nI z), .int (nI ty)] σ (fun σ' => CM t n D mm ((nmT t a z, ty) :: e) w σ' ∧ Fr fkCK σ σ') := by
  obtain ⟨h1', h2, h3, h4, h5, h6, h7⟩ := h
  have ck : (nI e.length).toNatClampNeg = e.length := nI_clamp (by omega)
  have vi : vp_in (nI e.length) 3000 := vp_in_nI (by omega) (by decide)
  have fin : ∀ σ', Fr fkCK σ σ' → σ'.1 177 e.length = nI a → σ'.1 178 e.length = nI z → σ'.1 179 e.length = nI ty → (∀ c i, c = 177 ∨ c = 178 ∨ c = 179 → i ≠ e.length → σ'.1 c i = σ.1 c i) → σ'.1 103 117 = nI (e.length + 1) → σ'.1 103 81 = σ.1 103 81 → CM t n D mm ((nmT t a z, ty) :: e) w σ' ∧ Fr fkCK σ σ' := by
    intro σ' hf g1 g2 g3 g4 g5 g6
    refine ⟨⟨h1'.fr hf, fun i q hq => ?_, g5, hl, fun q hq => ?_, g6.trans h6, h7⟩, hf⟩
    · rw [List.reverse_cons] at hq
      rcases Nat.lt_or_ge i e.length with c | c
      · rw [List.getElem?_append_left (by rw [List.length_reverse]; exact c)] at hq
        obtain ⟨b, y, b1, b2, b3, b4, b5⟩ := h2 i q hq
        exact ⟨b, y, (g4 177 i (by omega) (by omega)).trans b1, (g4 178 i (by omega) (by omega)).trans b2, b3, b4, (g4 179 i (by omega) (by omega)).trans b5⟩
      · have hi := (List.getElem?_eq_some_iff.mp hq).1
        rw [List.length_append, List.length_reverse] at hi
        have e1 : ∀ x : List Nat × Nat, [x].length = 1 := fun _ => rfl
        rw [e1] at hi
        have hi2 : i = e.length := by omega
        rw [List.getElem?_append_right (by rw [List.length_reverse]; exact c), List.length_reverse, hi2, Nat.sub_self] at hq
        have := Option.some.inj hq
        subst this
        rw [hi2]
        exact ⟨a, z, g1, g2, h1, rfl, g3⟩
    · rcases List.mem_cons.mp hq with rfl | hq
      · exact hy
      · exact h5 q hq
  refine S_M_binds ?_
  rw [h3, ck, (nI_succ e.length).symm]
  have s3 : ∀ c i, c = 177 ∨ c = 178 ∨ c = 179 → i ≠ e.length → (sI (sI (sI σ 177 e.length (nI a)) 178 e.length (nI z)) 179 e.length (nI ty)).1 c i = σ.1 c i := by
    intro c i hc hi
    rcases hc with rfl | rfl | rfl
    · exact (congrFun (sI_o (by decide)) i).trans ((congrFun (sI_o (by decide)) i).trans (sI_so hi))
    · exact (congrFun (sI_o (by decide)) i).trans ((sI_so hi).trans (congrFun (sI_o (by decide)) i))
    · exact (sI_so hi).trans ((congrFun (sI_o (by decide)) i).trans (congrFun (sI_o (by decide)) i))
  have r177 : (sI (sI (sI σ 177 e.length (nI a)) 178 e.length (nI z)) 179 e.length (nI ty)).1 177 e.length = nI a := (congrFun (sI_o (by decide)) _).trans ((congrFun (sI_o (by decide)) _).trans sI_ss)
  have r178 : (sI (sI (sI σ 177 e.length (nI a)) 178 e.length (nI z)) 179 e.length (nI ty)).1 178 e.length = nI z := (congrFun (sI_o (by decide)) _).trans sI_ss
  have r179 : (sI (sI (sI σ 177 e.length (nI a)) 178 e.length (nI z)) 179 e.length (nI ty)).1 179 e.length = nI ty := sI_ss
  have r81 : (sI (sI (sI σ 177 e.length (nI a)) 178 e.length (nI z)) 179 e.length (nI ty)).1 103 81 = σ.1 103 81 := (congrFun (sI_o (by decide)) _).trans ((congrFun (sI_o (by decide)) _).trans (congrFun (sI_o (by decide)) _))
  have f3 : Fr fkCK σ (sI (sI (sI σ 177 e.length (nI a)) 178 e.length (nI z)) 179 e.length (nI ty)) := ((Fr.rf.sI (by unfold fkCK; simp)).sI (by unfold fkCK; simp)).sI (by unfold fkCK; simp)
  generalize sI (sI (sI σ 177 e.length (nI a)) 178 e.length (nI z)) 179 e.length (nI ty) = σ3 at s3 r177 r178 r179 r81 f3 ⊢
  refine ⟨vi, vi, vi, fun _ => fin _ (f3.sI rfl) ((congrFun (sI_o (by decide)) _).trans r177) ((congrFun (sI_o (by decide)) _).trans r178) ((congrFun (sI_o (by decide)) _).trans r179) (fun c i hc hi => (congrFun (sI_o (by omega)) i).trans (s3 c i hc hi)) sI_ss ((sI_so (by decide)).trans r81), fun _ => fin _ ((f3.sI rfl).sI rfl) ((congrFun (sI_o (by decide)) _).trans ((congrFun (sI_o (by decide)) _).trans r177)) ((congrFun (sI_o (by decide)) _).trans ((congrFun (sI_o (by decide)) _).trans r178)) ((congrFun (sI_o (by decide)) _).trans ((congrFun (sI_o (by decide)) _).trans r179)) (fun c i hc hi => (congrFun (sI_o (by omega)) i).trans ((congrFun (sI_o (by omega)) i).trans (s3 c i hc hi))) ((sI_so (by decide)).trans sI_ss) ((sI_so (by decide)).trans ((sI_so (by decide)).trans r81))⟩
/-- NAMES less -/
theorem k_drop {q : List (List Nat × Nat)} {v : Int32} (h : CM t n D mm (q ++ e) w σ) (hv : v = nI e.length) : CM t n D mm e w (sI σ 103 117 v) ∧ Fr fkCK σ (sI σ 103 117 v) := by
  subst hv
  obtain ⟨h1, h2, h3, h4, h5, h6, h7⟩ := h
  have f0 : Fr fkCK σ (sI σ 103 117 (nI e.length)) := Fr.rf.sI rfl
  rw [List.length_append] at h4
  refine ⟨⟨h1.fr f0, fun i r hr => ?_, sI_ss, by omega, fun r hr => h5 r (List.mem_append_right _ hr), (sI_so (by decide)).trans h6, h7⟩, f0⟩
  obtain ⟨b, y, b1, b2, b3, b4, b5⟩ := h2 i r (by
    rw [List.reverse_append, List.getElem?_append_left (List.getElem?_eq_some_iff.mp hr).1]
    exact hr)
  exact ⟨b, y, (congrFun (sI_o (by decide)) i).trans b1, (congrFun (sI_o (by decide)) i).trans b2, b3, b4, (congrFun (sI_o (by decide)) i).trans b5⟩
end CM
