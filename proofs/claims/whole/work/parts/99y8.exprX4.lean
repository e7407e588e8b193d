/-! THE CLASS reads an E: parts with signs between; an E -/
section XS
variable {t : Nat → UInt8} {n d : Nat} {σ0 σ : fkS} {s : PS} {C : List cdE} {o : Int32} {E : PS → PS × Tr}
theorem kA_nat (i : Nat) : kA t n i = nI (oA t n i) ∧ oA t n i < 256 := by
  obtain ⟨k, hk, e⟩ := kX_nat (t := t) (n := n) i
  have e2 : oA t n i = k := by
    unfold oA
    rw [e]
    exact nI_clamp (by omega)
  rw [e2]
  exact ⟨e, hk⟩
/-- reading what comes of P, from a state without fault -/
def XF (t : Nat → UInt8) (n : Nat) (σ0 : fkS) (d m : Nat) (as : List Value) (P : PS → PS × Tr) : Prop := ∀ (s : PS) (C : List cdE) (σ : fkS), PC t n σ0 s C σ → s.2.1 = none → Dv d m as σ (fun σ' => ∃ C', PC t n σ0 (P s).1 C' σ' ∧ Go t (P s).2 (P s).1 C C')
theorem lvl_pos {c : Nat} {l : Int32} (h : lvl c = l) (hl : l = 0 ∨ l = 1 ∨ l = 2) : 0 < c ∧ c < 256 := by
  have := lvl_op h hl
  have key : ∀ c ∈ [42, 43, 45, 47, 37, 60, 128], 0 < c ∧ c < 256 := by decide
  exact key c this
theorem w_lev {most wh : Nat} {lv : Int32} {P : PS → PS × Tr} {B : List cdE} {Q : Option Value → fkS → Prop} (hm : most ≤ 401) (hl : lv = 0 ∨ lv = 1 ∨ lv = 2) (hP1 : ¬ lv = 2 → XF t n σ0 d 196 [.ref 88, .int (lv + 1), .int o] P) (hP2 : lv = 2 → XF t n σ0 d 197 [.ref 88, .int o] P) : ∀ (f : Nat) (b : Bool) (k wk op : Nat) (s : PS) (C : List cdE) (σ : fkS) (T : Tr) (v4 : Int32), f + k = most → PC t n σ0 s C σ → (b = true → v4 = 0 ∧ wk = wh ∧ Go t T s B C) → (b = false → v4 = nI op ∧ 0 < op ∧ op < 256 ∧ Go t T s B (cdA (cdA C (14, 1, nI wk, 0)) (nI op, 0, 0, 0))) → B.length ≤ C.length →
    (∀ C' σ', PC t n σ0 (pL t n lv P wh f b s T).1 C' σ' → Go t (pL t n lv P wh f b s T).2 (pL t n lv P wh f b s T).1 B C' → Q none σ') →
    Wq 196 (d + 1) 59 [some (.ref 88), some (.int lv), some (.int o), some (.int (nI most)), some (.int v4), none, some (.int (nI k)), some (.int (nI wk))] [] σ Q := by
  intro f
  induction f with
  | zero =>
    intro b k wk op s C σ T v4 hk h hb1 hb0 hB hQ
    -- what is done where nothing goes on
    have stop : Wq 196 (d + 1) 87 [some (.ref 88), some (.int lv), some (.int o), some (.int (nI most)), some (.int v4), none, some (.int (nI k)), some (.int (nI wk))] [] σ Q := by
      have e21 : ∀ (v4 : Int32) (σ' : fkS), Q none σ' → Wq 196 (d + 1) 21 [some (.ref 88), some (.int lv), some (.int o), some (.int (nI most)), some (.int v4), some (.int (0 : Int32)), some (.int (nI k + 1)), none] [] σ' Q := fun v4 σ' q => S_Parser_parts_21 ⟨fun _ => q, fun _ => ⟨fun _ => q, fun y => absurd rfl y⟩⟩
      cases b with
      | true =>
        obtain ⟨rfl, rfl, g⟩ := hb1 rfl
        refine S_Parser_parts_87 h.r0 ⟨fun y => absurd rfl y, fun _ => ⟨fun _ => ?_, fun y => absurd rfl y⟩⟩
        exact S_Parser_parts_114 h.r0 ⟨fun _ => ⟨fun _ => e21 _ σ (hQ C σ h g), fun y => absurd rfl y⟩, fun y => absurd rfl y⟩
      | false =>
        obtain ⟨rfl, o1, o2, g⟩ := hb0 rfl
        have on : ¬ nI op = 0 := nI_ne0 o1 (by omega)
        refine S_Parser_parts_87 h.r0 ⟨fun y => absurd rfl y, fun _ => ⟨fun y => absurd y on, fun _ => ⟨by decide, ?_⟩⟩⟩
        refine yI rfl (x_add h) fun _ σ1 ⟨_, h1⟩ w1 => ?_
        rw [w1]
        refine S_Parser_parts_114 h1.r0 ⟨fun y => absurd y on, fun _ => ⟨by decide, ?_⟩⟩
        refine yI rfl (x_add h1) fun _ σ2 ⟨_, h2⟩ w2 => ?_
        rw [w2]
        exact ⟨fun _ => e21 _ σ2 (hQ _ σ2 h2 g), fun y => absurd rfl y⟩
    refine S_Parser_parts_59 h.r0 (yI rfl (x_fine h) fun x σ1 ⟨e1, hx⟩ w1 => ?_)
    subst e1
    rw [w1]
    exact ⟨fun _ => stop, fun _ => ⟨fun _ => stop, fun y => absurd (nI_le (a := most) (b := k) (by omega) (by omega)) y⟩⟩
  | succ f ih =>
    intro b k wk op s C σ T v4 hk h hb1 hb0 hB hQ
    rw [pL] at hQ
    have stop : ¬ (s.2.1 = none ∧ lvl (oA t n s.1) = lv) → Wq 196 (d + 1) 87 [some (.ref 88), some (.int lv), some (.int o), some (.int (nI most)), some (.int v4), none, some (.int (nI k)), some (.int (nI wk))] [] σ Q := by
      intro c
      rw [if_neg c] at hQ
      have e21 : ∀ (v4 : Int32) (σ' : fkS), Q none σ' → Wq 196 (d + 1) 21 [some (.ref 88), some (.int lv), some (.int o), some (.int (nI most)), some (.int v4), some (.int (0 : Int32)), some (.int (nI k + 1)), none] [] σ' Q := fun v4 σ' q => S_Parser_parts_21 ⟨fun _ => q, fun _ => ⟨fun _ => q, fun y => absurd rfl y⟩⟩
      cases b with
      | true =>
        obtain ⟨rfl, rfl, g⟩ := hb1 rfl
        refine S_Parser_parts_87 h.r0 ⟨fun y => absurd rfl y, fun _ => ⟨fun _ => ?_, fun y => absurd rfl y⟩⟩
        exact S_Parser_parts_114 h.r0 ⟨fun _ => ⟨fun _ => e21 _ σ (hQ C σ h g), fun y => absurd rfl y⟩, fun y => absurd rfl y⟩
      | false =>
        obtain ⟨rfl, o1, o2, g⟩ := hb0 rfl
        have on : ¬ nI op = 0 := nI_ne0 o1 (by omega)
        refine S_Parser_parts_87 h.r0 ⟨fun y => absurd rfl y, fun _ => ⟨fun y => absurd y on, fun _ => ⟨by decide, ?_⟩⟩⟩
        refine yI rfl (x_add h) fun _ σ1 ⟨_, h1⟩ w1 => ?_
        rw [w1]
        refine S_Parser_parts_114 h1.r0 ⟨fun y => absurd y on, fun _ => ⟨by decide, ?_⟩⟩
        refine yI rfl (x_add h1) fun _ σ2 ⟨_, h2⟩ w2 => ?_
        rw [w2]
        exact ⟨fun _ => e21 _ σ2 (hQ _ σ2 h2 g), fun y => absurd rfl y⟩
    refine S_Parser_parts_59 h.r0 (yI rfl (x_fine h) fun x σ1 ⟨e1, hx⟩ w1 => ?_)
    subst e1
    rw [w1]
    refine ⟨fun y => stop fun c => ?_, fun y => ⟨fun y2 => absurd y2 (nI_ge (a := k) (b := most) (by omega) (by omega)), fun _ => ?_⟩⟩
    · rw [hx, if_pos c.1] at y; exact absurd y (by decide)
    have z : s.2.1 = none := Classical.byContradiction fun c => y (by rw [hx, if_neg c])
    obtain ⟨ka, kb⟩ := kA_nat (t := t) (n := n) s.1
    rw [h.kind, ka]
    refine yI rfl (p_level kb) fun x2 σ2 ⟨e2, hx2⟩ w2 => ?_
    subst e2
    rw [w2]
    refine ⟨fun y2 => stop fun c => y2 (hx2.trans c.2), fun y2 => ⟨fun _ => ⟨by decide, ?_⟩, fun y => absurd y (by decide)⟩⟩
    have lc : lvl (oA t n s.1) = lv := hx2.symm.trans y2
    rw [if_pos ⟨z, lc⟩] at hQ
    obtain ⟨p1, p2⟩ := lvl_pos lc hl
    have ek : nI k + 1 = nI (k + 1) := (nI_succ k).symm
    -- the next part, from the CODE that stands
    have next : ∀ (C3 : List cdE) (σ3 : fkS), PC t n σ0 (nxt s) C3 σ3 → B.length ≤ C3.length → (∀ (r : PS × Tr) (C4 : List cdE), (r.1.2.1 = none → True) → Go t r.2 r.1 C3 C4 → Go t (nd (if b then 11 else 12) (oA t n s.1) wh (aA t n (s.1 + 1)) 0 T r.2) r.1 B (cdA (cdA C4 (14, 1, nI (aA t n (s.1 + 1)), 0)) (nI (oA t n s.1), 0, 0, 0))) → Wq 196 (d + 1) 21 [some (.ref 88), some (.int lv), some (.int o), some (.int (nI most)), some (.int (nI (oA t n s.1))), some (.int (1 : Int32)), some (.int (nI k + 1)), none] [] σ3 Q := by
      intro C3 σ3 h3 hB3 hg
      rw [ek]
      refine S_Parser_parts_21 ⟨fun y => absurd y (nI_nlt (a := most) (b := k + 1) (by omega) (by omega)), fun _ => ⟨fun y => absurd y (by decide), fun _ => ?_⟩⟩
      rw [h3.at]
      have go : ∀ (m : Nat) (as : List Value), XF t n σ0 d m as P → Dv d m as σ3 (fun σ1 => Wq 196 (d + 1) 59 [some (.ref 88), some (.int lv), some (.int o), some (.int (nI most)), some (.int (nI (oA t n s.1))), none, some (.int (nI (k + 1))), some (.int (nI (aA t n (nxt s).1)))] [] (sW σ1 σ3) Q) := by
        intro m as hP
        refine yV rfl (hP _ _ _ h3 rfl) fun σ4 ⟨C4, h4, g4⟩ w4 => ?_
        rw [w4]
        have q4 := g4.1
        exact ih false (k + 1) _ (oA t n s.1) _ C4 σ4 _ _ (by omega) h4 (fun z => by cases z) (fun _ => ⟨rfl, p1, p2, hg _ _ (fun _ => trivial) g4⟩) (by omega) hQ
      exact ⟨fun y => go _ _ (hP1 y), fun y => go _ _ (hP2 y)⟩
    refine yI (show σ2.2.2 = σ2.2.2 from rfl) (x_add h) fun _ σ3 ⟨_, h3⟩ w3 => ?_
    rw [w3]
    cases b with
    | true =>
      obtain ⟨rfl, rfl, g⟩ := hb1 rfl
      refine S_Parser_parts_114 h3.r0 ⟨fun _ => ⟨fun y => absurd y (by decide), fun _ => ?_⟩, fun y => absurd rfl y⟩
      rw [h3.kind, ka]
      refine yV rfl (x_step h3 z) fun σ4 h4 w4 => ?_
      rw [w4]
      refine next _ σ4 h4 (Nat.le_trans g.1 cdA_len.1) fun r C4 _ g4 => ?_
      have j0 := (cdA_len (C := C) (e := (14, 1, nI wk, 0))).1
      have j1 := (cdA_len (C := C4) (e := (14, 1, nI (aA t n (s.1 + 1)), 0))).1
      have j2 := (cdA_len (C := cdA C4 (14, 1, nI (aA t n (s.1 + 1)), 0)) (e := (nI (oA t n s.1), 0, 0, 0))).1
      have q1 := g.1
      have q4 := g4.1
      refine ⟨by omega, fun z2 hr => ?_⟩
      rw [if_pos rfl, ln_11] at hr
      have e1 := g.2 z (by omega)
      have l1 := g.len z (by omega)
      rw [cdA_go (by omega)] at g4
      have l2 : (C ++ [((14 : Int32), (1 : Int64), nI wk, (0 : Int32))]).length = B.length + ln T + 1 := by rw [List.length_append, l1]; rfl
      have e4 := g4.2 z2 (by omega)
      have l4 := g4.len z2 (by omega)
      rw [l2] at e4 l4
      have e5 : cdA C4 (14, 1, nI (aA t n (s.1 + 1)), 0) = C4 ++ [(14, 1, nI (aA t n (s.1 + 1)), 0)] := cdA_go (by omega)
      rw [e5, cdA_go (by rw [List.length_append]; show C4.length + 1 < 3000; omega), e4, e1, if_pos rfl, cr_11]
      simp only [List.append_assoc, List.cons_append, List.nil_append]
    | false =>
      obtain ⟨rfl, o1, o2, g⟩ := hb0 rfl
      have on : ¬ nI op = 0 := nI_ne0 o1 (by omega)
      refine S_Parser_parts_114 h3.r0 ⟨fun y => absurd y on, fun _ => ⟨by decide, ?_⟩⟩
      refine yI rfl (x_add h3) fun _ σ4 ⟨_, h4⟩ w4 => ⟨fun y => absurd y (by decide), fun _ => ?_⟩
      rw [w4, h4.kind, ka]
      refine yV (h3.re h4) (x_step h4 z) fun σ5 h5 w5 => ?_
      rw [w5]
      refine next _ σ5 h5 g.1 fun r C4 _ g4 => ?_
      generalize cdA (cdA C (14, 1, nI wk, 0)) (nI op, 0, 0, 0) = C3 at g g4
      have j1 := (cdA_len (C := C4) (e := (14, 1, nI (aA t n (s.1 + 1)), 0))).1
      have j2 := (cdA_len (C := cdA C4 (14, 1, nI (aA t n (s.1 + 1)), 0)) (e := (nI (oA t n s.1), 0, 0, 0))).1
      have q1 := g.1
      have q4 := g4.1
      refine ⟨by omega, fun z2 hr => ?_⟩
      rw [if_neg (by decide), ln_12] at hr
      have e1 := g.2 z (by omega)
      have l1 := g.len z (by omega)
      have e4 := g4.2 z2 (by omega)
      have l4 := g4.len z2 (by omega)
      rw [l1] at e4 l4
      have e5 : cdA C4 (14, 1, nI (aA t n (s.1 + 1)), 0) = C4 ++ [(14, 1, nI (aA t n (s.1 + 1)), 0)] := cdA_go (by omega)
      rw [e5, cdA_go (by rw [List.length_append]; show C4.length + 1 < 3000; omega), e4, e1, if_neg (by decide), cr_12]
      simp only [List.append_assoc, List.cons_append, List.nil_append]
/-- the method 'parts' at a level -/
theorem x_parts {most : Nat} {lv : Int32} {P : PS → PS × Tr} (hl : lv = 0 ∧ most = 2 ∨ lv = 1 ∧ most = 401 ∨ lv = 2 ∧ most = 401) (hP1 : ¬ lv = 2 → XF t n σ0 d 196 [.ref 88, .int (lv + 1), .int o] P) (hP2 : lv = 2 → XF t n σ0 d 197 [.ref 88, .int o] P) : XF t n σ0 (d + 1) 196 [.ref 88, .int lv, .int o] (fun s => pL t n lv P (aA t n s.1) (most - 1) true (P s).1 (P s).2) := by
  intro s C σ h h0
  have hl' : lv = 0 ∨ lv = 1 ∨ lv = 2 := by rcases hl with ⟨a, -⟩ | ⟨a, -⟩ | ⟨a, -⟩ <;> simp [a]
  have hm : most = 2 ∨ most = 401 := by rcases hl with ⟨-, a⟩ | ⟨-, a⟩ | ⟨-, a⟩ <;> simp [a]
  have go : ∀ (m : Nat) (as : List Value), XF t n σ0 d m as P → Dv d m as σ (fun σ1 => Wq 196 (d + 1) 59 [some (.ref 88), some (.int lv), some (.int o), some (.int (nI most)), some (.int (0 : Int32)), none, some (.int (nI 1)), some (.int (nI (aA t n s.1)))] [] (sW σ1 σ) (Qv (fun σ' => σ'.2.2 = σ.2.2 ∧ ∃ C', PC t n σ0 (pL t n lv P (aA t n s.1) (most - 1) true (P s).1 (P s).2).1 C' σ' ∧ Go t (pL t n lv P (aA t n s.1) (most - 1) true (P s).1 (P s).2).2 (pL t n lv P (aA t n s.1) (most - 1) true (P s).1 (P s).2).1 C C'))) := by
    intro m as hP
    refine yV rfl (hP _ _ _ h h0) fun σ1 ⟨C1, h1, g1⟩ w1 => ?_
    rw [w1]
    exact w_lev (B := C) (by omega) hl' hP1 hP2 (most - 1) true 1 (aA t n s.1) 0 _ C1 σ1 _ 0 (by omega) h1 (fun _ => ⟨rfl, rfl, g1⟩) (fun z => by cases z) g1.1 fun C' σ' h2 g2 => ⟨h.re h2, C', h2, g2⟩
  have w21 : Wq 196 (d + 1) 21 [some (.ref 88), some (.int lv), some (.int o), some (.int (nI most)), some (.int (0 : Int32)), some (.int (1 : Int32)), some (.int (1 : Int32)), none] [] σ (Qv (fun σ' => σ'.2.2 = σ.2.2 ∧ ∃ C', PC t n σ0 (pL t n lv P (aA t n s.1) (most - 1) true (P s).1 (P s).2).1 C' σ' ∧ Go t (pL t n lv P (aA t n s.1) (most - 1) true (P s).1 (P s).2).2 (pL t n lv P (aA t n s.1) (most - 1) true (P s).1 (P s).2).1 C C')) := by
    refine S_Parser_parts_21 ⟨fun y => absurd y (nI_nlt (a := most) (b := 1) (by omega) (by omega)), fun _ => ⟨fun y => absurd y (by decide), fun _ => ?_⟩⟩
    rw [h.at]
    exact ⟨fun y => go _ _ (hP1 y), fun y => go _ _ (hP2 y)⟩
  refine S_Parser_parts ⟨fun y => ?_, fun y => ?_⟩
  · have e : most = 401 := by
      rcases hl with ⟨a, -⟩ | ⟨-, a⟩ | ⟨-, a⟩
      · exact absurd a y
      · exact a
      · exact a
    rw [e] at w21 ⊢
    exact w21
  · have e : most = 2 := by
      rcases hl with ⟨-, a⟩ | ⟨a, -⟩ | ⟨a, -⟩
      · exact a
      · rw [a] at y; exact absurd y (by decide)
      · rw [a] at y; exact absurd y (by decide)
    rw [e] at w21 ⊢
    exact w21
theorem XF.cast {m : Nat} {as : List Value} {P P2 : PS → PS × Tr} (h : XF t n σ0 d m as P) (e : ∀ s, P s = P2 s) : XF t n σ0 d m as P2 := by
  have : P = P2 := funext e
  subst this
  exact h
/-- an E -/
theorem x_E (hn : n ≤ 4000) : ∀ (g : Nat), g ≤ 30 → ∀ (d : Nat), 8 * g + 4 ≤ d → XE t n σ0 d 188 [.ref 88, .int (nI (31 - g))] (pE t n g) := by
  intro g
  induction g with
  | zero =>
    intro _ d hd s C σ h
    obtain ⟨e, rfl⟩ : ∃ e, d = e + 1 := ⟨d - 1, by omega⟩
    rw [pE]
    refine S_Parser_expression (yI rfl (x_fine h) fun x σ1 ⟨e1, hx⟩ w1 => ?_)
    subst e1
    rw [w1]
    refine ⟨fun y => ⟨fun y => absurd y (nI_ge (a := 30) (b := 31) (by omega) (by decide)), fun _ => ?_⟩, fun y => ?_⟩
    · have z : s.2.1 = none := Classical.byContradiction fun c => y (by rw [hx, if_neg c])
      rw [if_pos z]
      refine yV rfl (x_fail h z) fun σ2 h2 w2 => ?_
      show (sW σ2 σ1).2.2 = σ1.2.2 ∧ _
      rw [w2]
      exact ⟨h.re h2, C, h2, Nat.le_refl _, fun z _ => by cases z⟩
    · have z : ¬ s.2.1 = none := fun c => by rw [hx, if_pos c] at y; exact absurd y (by decide)
      rw [if_neg z]
      exact ⟨rfl, C, h, Nat.le_refl _, fun z2 _ => absurd z2 z⟩
  | succ g ih =>
    intro hg d hd s C σ h
    obtain ⟨e, rfl⟩ : ∃ e, d = e + 12 := ⟨d - 12, by omega⟩
    have eo : nI (31 - (g + 1)) + 1 = nI (31 - g) := by
      rw [← nI_succ]
      congr 1
      omega
    have ho : nI (31 - (g + 1)) ≤ (30 : Int32) := nI_le (b := 30) (by omega) (by decide)
    have E := fun (d : Nat) (hd : 8 * g + 4 ≤ d) => ih (by omega) d hd
    rw [← eo] at E
    generalize nI (31 - (g + 1)) = o at E ho ⊢
    have hw : ∀ s, (pE t n g s).1.2.1 = none → s.2.1 = none := fun s h => (Gd_E hn g s h).1
    have A : XF t n σ0 (e + 8) 197 [.ref 88, .int o] (pAt t n (pE t n g)) := fun s C σ h h0 => x_at (d := e + 4) hw (E _ (by omega)) (E _ (by omega)) (E _ (by omega)) h h0
    have A2 : XF t n σ0 (e + 9) 196 [.ref 88, .int 2, .int o] (pP2 t n (pE t n g)) := x_parts (d := e + 8) (most := 401) (Or.inr (Or.inr ⟨rfl, rfl⟩)) (fun y => absurd rfl y) (fun _ => A)
    have A1 : XF t n σ0 (e + 10) 196 [.ref 88, .int 1, .int o] (pP1 t n (pE t n g)) := x_parts (d := e + 9) (most := 401) (Or.inr (Or.inl ⟨rfl, rfl⟩)) (fun _ => A2) (fun y => absurd y (by decide))
    have A0 : XF t n σ0 (e + 11) 196 [.ref 88, .int 0, .int o] (pP0 t n (pE t n g)) := x_parts (d := e + 10) (most := 2) (Or.inl ⟨rfl, rfl⟩) (fun _ => A1) (fun y => absurd y (by decide))
    rw [pE]
    refine S_Parser_expression (d := e + 11) (yI rfl (x_fine h) fun x σ1 ⟨e1, hx⟩ w1 => ?_)
    subst e1
    rw [w1]
    refine ⟨fun y => ⟨fun _ => ?_, fun y => absurd ho y⟩, fun y => ?_⟩
    · have z : s.2.1 = none := Classical.byContradiction fun c => y (by rw [hx, if_neg c])
      rw [if_pos z, h.kind]
      have fin : ∀ {m : Nat} {as : List Value} {P : PS → PS × Tr}, Dv (e + 11) m as σ1 (fun σ' => ∃ C', PC t n σ0 (P s).1 C' σ' ∧ Go t (P s).2 (P s).1 C C') → Dv (e + 11) m as σ1 (fun σ3 => Qv (fun σ' => σ'.2.2 = σ1.2.2 ∧ ∃ C', PC t n σ0 (P s).1 C' σ' ∧ Go t (P s).2 (P s).1 C C') none (sW σ3 σ1)) := by
        intro m as P c
        refine yV rfl c fun σ2 ⟨C2, h2, g2⟩ w2 => ?_
        rw [w2]
        exact ⟨h.re h2, C2, h2, g2⟩
      refine ⟨fun n1 => ⟨fun n2 => ⟨fun n3 => ?_, fun y3 => ?_⟩, fun y2 => ?_⟩, fun y1 => ?_⟩
      · rw [if_neg n1, if_neg n2, if_neg n3]
        exact fin (A0 s C σ1 h z)
      · rw [if_neg n1, if_neg n2, if_pos y3]
        exact fin (x_ma (d := e + 8) hw (E _ (by omega)) (E _ (by omega)) h z)
      · rw [if_neg n1, if_pos y2]
        exact fin (x_if (d := e + 9) hw (E _ (by omega)) (E _ (by omega)) h z)
      · rw [if_pos y1]
        exact fin (x_let (d := e + 9) hw (E _ (by omega)) h z)
    · have z : ¬ s.2.1 = none := fun c => by rw [hx, if_pos c] at y; exact absurd y (by decide)
      rw [if_neg z]
      exact ⟨rfl, C, h, Nat.le_refl _, fun z2 _ => absurd z2 z⟩
end XS
