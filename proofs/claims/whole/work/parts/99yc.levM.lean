/-! THE REFERENCE reads parts with signs between -/
section YLV
variable {t : Nat → UInt8} {n d o K R : Nat} {σ0 σ σE : fkS} {s s0 : PS} {P : PS → PS × Tr}
def XP (t : Nat → UInt8) (n : Nat) (σ0 : fkS) (d j o K R : Nat) (P : PS → PS × Tr) : Prop := ∀ (s : PS) (m : Nat) (σ : fkS), PN t n σ0 s m o σ → s.2.1 = none → m + 3 * (401 - s.2.2) + R ≤ 3000 → Ci d j [.ref 103] σ (YT t n σ0 o K s m σ (P s))
theorem oA_3 {i c : Nat} (hc : c ∈ [42, 43, 45, 47, 37, 60, 128]) (h : oA t n i = c) : (tkAt t n i).1 = 3 ∧ (tkAt t n i).2.2.2 = c := by
  have hs : c ∈ 128 :: 129 :: sgs := by
    have key : ∀ c ∈ [42, 43, 45, 47, 37, 60, 128], c ∈ 128 :: 129 :: sgs := by decide
    exact key c hc
  have e : kX t (tkAt t n i) = nI c := by
    have := (kA_nat (t := t) (n := n) i).1
    rw [h] at this
    exact this
  have k := (kX_sign hs).mp e
  refine ⟨k.1, ?_⟩
  have hm := of_decide_eq_true (List.all_eq_true.mp (List.all_eq_true.mp sg_M _ (tkAt_sg k.1)) c hs)
  exact hm.mp k.2
theorem PN.op {m : Nat} (h : PN t n σ0 s m o σ) {c : Nat} (hc : c ∈ [42, 43, 45, 47, 37, 60, 128]) (e : oA t n s.1 = c) : (σ.2.1 103 85).toInt32 = nI (sM c) := by
  obtain ⟨k3, kc⟩ := oA_3 hc e
  rw [h.1.1.2.2.2.2.2.2 k3, lN_i, kc]
/-- one more part -/
theorem y_step {JP wh lo : Nat} {T : Tr} {x : Int32} {lev : Int32} {b : Bool} {Rst : Int32 → fkS → Prop} (hl : lev = 0 ∨ lev = 1 ∨ lev = 2) (hP : XP t n σ0 (d + 4) JP o K R P) (h : YT t n σ0 o K s0 lo σE (s, T) x σ) (h0 : s.2.1 = none) (hs : s0.2.1 = none) (hop : lvl (oA t n s.1) = lev) (hr : lo + 3 * (401 - s0.2.2) + R ≤ 3000)
    (hQ : ∀ y σ', YT t n σ0 o K s0 lo σE ((P (nxt s)).1, nd (if b then 11 else 12) (oA t n s.1) wh (aA t n (s.1 + 1)) 0 T (P (nxt s)).2) y σ' → ((P (nxt s)).1.2.1 = none → s.2.2 < (P (nxt s)).1.2.2) → Rst y σ') :
    Ci (d + 4) 349 [.ref 103, .int (nI wh), .int x, .int ((σ.2.1 103 85).toInt32)] σ (fun x2 σ1 => Cv (d + 4) 325 [.ref 103] σ1 (fun σ3 => vp_in x2 3000 ∧ Ci (d + 4) JP [.ref 103] (sI σ3 170 x2.toNatClampNeg (σ3.1 103 83)) (fun x5 σ4 => vp_in x2 3000 ∧ Rst x2 (sI σ4 167 x2.toNatClampNeg x5)))) := by
  obtain ⟨m, y1, y2, y3, y4, y5, y6⟩ := h
  obtain ⟨y7, y8⟩ := y6 h0
  have y4' : s0.2.2 ≤ s.2.2 := y4
  have y7' : m + 2 ≤ lo + 3 * (s.2.2 - s0.2.2) := y7
  have ho := lvl_op hop hl
  have a401 : s.2.2 ≤ 401 := y1.2.2.2.2.2.1
  rw [y1.op ho rfl]
  refine S_M_two (d := d + 3) (vI (u_node y1 (by omega)) fun x2 σ1 ⟨hx, h1, k1, gg, r1⟩ => ?_)
  subst hx
  have D1 : ND t n σ0 σE lo s m (m + 1) o (n0 gg 11 (nI wh)) (fun q => At T 0 x lo m q) σ1 := ⟨h1, y2.tr (k1.le y3), r1, y3, Nat.lt_succ_self m, fun p q e w => At.fr (Nat.le_refl _) (Nat.le_refl _) (fun c j b1 b2 b3 b4 => e c j b1 b2 (by omega) (by omega)) _ _ _ w, k1.at (Nat.le_refl _) y8⟩
  refine ⟨D1.vi, D1.vi, D1.vi, ?_⟩
  show Cv (d + 4) 325 [.ref 103] _ _
  rw [D1.ck]
  have D2 := ((D1.st (c := 176) (v := nI (sM (oA t n s.1))) (by decide) (by decide)).st (c := 169) (v := nI wh) (by decide) (by decide)).st (c := 166) (v := x) (by decide) (by decide)
  refine vV (u_scan (d := d) D2.1 h0) fun σ3 ⟨h3, k3⟩ => ⟨D2.vi, ?_⟩
  have D3 := D2.to h3 k3
  rw [D3.1.at]
  have D4 := D3.st (c := 170) (v := nI (aA t n (nxt s).1)) (by decide) (by decide)
  refine vI (hP _ _ _ D4.1 rfl (by show m + 1 + 3 * (401 - s.2.2) + R ≤ 3000; omega)) fun x5 σ5 y5' => ⟨D4.vi, ?_⟩
  obtain ⟨m', D5, q1, q2, q3, q4, q5⟩ := D4.E y5'
  rw [if_pos (show (nxt s).2.1 = none from rfl)] at q4
  have q2' : s.2.2 ≤ (P (nxt s)).1.2.2 := q2
  have q4' : m' ≤ m + 1 + 3 * ((P (nxt s)).1.2.2 - s.2.2) + K := q4
  have q5' : (P (nxt s)).1.2.1 = none → m' + 2 ≤ m + 1 + 3 * ((P (nxt s)).1.2.2 - s.2.2) := q5
  have D6 := D5.st (c := 167) (v := x5) (by decide) (by decide)
  obtain ⟨f1, f2, f3, f0, f4, f5, f6⟩ := id D6
  refine hQ _ _ ⟨m', f1, f2, by omega, by show s0.2.2 ≤ (P (nxt s)).1.2.2; omega, ?_, fun z => ?_⟩ (fun z => by have := q5' z; omega)
  · show m' ≤ lo + 3 * ((P (nxt s)).1.2.2 - s0.2.2) + _
    rw [if_pos hs]
    omega
  · have b1 := q5' z
    have a1 : At T 0 ((sI σ5 167 m x5).1 166 m) lo m' (sI σ5 167 m x5) := by
      rw [show (sI σ5 167 m x5).1 166 m = x from D6.row (c := 166) (by decide) (by decide)]
      exact f6.1.wide (Nat.le_refl _) (by omega)
    have a2 : At (P (nxt s)).2 0 ((sI σ5 167 m x5).1 167 m) lo m' (sI σ5 167 m x5) := by
      rw [show (sI σ5 167 m x5).1 167 m = x5 from D6.row (c := 167) (by decide) (by decide)]
      exact (f6.2 z).wide (by omega) (Nat.le_refl _)
    refine ⟨by show m' + 2 ≤ lo + 3 * ((P (nxt s)).1.2.2 - s0.2.2); omega, ?_⟩
    cases b with
    | true => exact at_11.mpr ⟨m, rfl, f0, f4, D6.row (c := 164) (by decide) (by decide), D6.row (c := 176) (by decide) (by decide), D6.row (c := 169) (by decide) (by decide), D6.row (c := 170) (by decide) (by decide), a1, a2⟩
    | false => exact at_12.mpr ⟨m, rfl, f0, f4, D6.row (c := 164) (by decide) (by decide), D6.row (c := 176) (by decide) (by decide), D6.row (c := 169) (by decide) (by decide), D6.row (c := 170) (by decide) (by decide), a1, a2⟩
theorem kA_o {i k : Nat} (hk : k < 256) : kA t n i = nI k ↔ oA t n i = k := by
  obtain ⟨e, hb⟩ := kA_nat (t := t) (n := n) i
  rw [e]
  exact nI_eq (by omega) (by omega)
theorem lvl_2 {c : Nat} : lvl c = 2 ↔ c = 37 ∨ c = 42 ∨ c = 47 := by
  unfold lvl
  by_cases c1 : c = 37 ∨ c = 42 ∨ c = 47
  · rw [if_pos c1]; exact ⟨fun _ => c1, fun _ => rfl⟩
  rw [if_neg c1]
  refine ⟨fun z => ?_, fun z => absurd z c1⟩
  by_cases c2 : c = 43 ∨ c = 45
  · rw [if_pos c2] at z; exact absurd z (by decide)
  rw [if_neg c2] at z
  by_cases c3 : c = 60 ∨ c = 128
  · rw [if_pos c3] at z; exact absurd z (by decide)
  rw [if_neg c3] at z
  exact absurd z (by decide)
theorem lvl_1 {c : Nat} : lvl c = 1 ↔ c = 43 ∨ c = 45 := by
  unfold lvl
  by_cases c1 : c = 37 ∨ c = 42 ∨ c = 47
  · rw [if_pos c1]; exact ⟨fun z => absurd z (by decide), fun z => by omega⟩
  rw [if_neg c1]
  by_cases c2 : c = 43 ∨ c = 45
  · rw [if_pos c2]; exact ⟨fun _ => c2, fun _ => rfl⟩
  rw [if_neg c2]
  refine ⟨fun z => ?_, fun z => absurd z c2⟩
  by_cases c3 : c = 60 ∨ c = 128
  · rw [if_pos c3] at z; exact absurd z (by decide)
  rw [if_neg c3] at z
  exact absurd z (by decide)
theorem lvl_0 {c : Nat} : lvl c = 0 ↔ c = 60 ∨ c = 128 := by
  unfold lvl
  by_cases c1 : c = 37 ∨ c = 42 ∨ c = 47
  · rw [if_pos c1]; exact ⟨fun z => absurd z (by decide), fun z => by omega⟩
  rw [if_neg c1]
  by_cases c2 : c = 43 ∨ c = 45
  · rw [if_pos c2]; exact ⟨fun z => absurd z (by decide), fun z => by omega⟩
  rw [if_neg c2]
  by_cases c3 : c = 60 ∨ c = 128
  · rw [if_pos c3]; exact ⟨fun _ => c3, fun _ => rfl⟩
  rw [if_neg c3]
  exact ⟨fun z => absurd z (by decide), fun z => absurd z c3⟩
/-- products -/
theorem y_prodW {wh lo : Nat} (hP : XP t n σ0 (d + 4) 346 o K R P) (hs : s0.2.1 = none) (hr : lo + 3 * (401 - s0.2.2) + R ≤ 3000) : ∀ (f : Nat) (b : Bool) (s : PS) (T : Tr) (x : Int32) (σ : fkS), (s.2.1 = none → 401 ≤ f + s.2.2) → YT t n σ0 o K s0 lo σE (s, T) x σ → Wq 345 (d + 5) 10 [some (.ref 103), some (.int (nI wh)), some (.int x), none] [] σ (Qi (YT t n σ0 o K s0 lo σE (pL t n 2 P wh f b s T))) := by
  intro f
  induction f with
  | zero =>
    intro b s T x σ hf h
    obtain ⟨m, h1, -⟩ := id h
    have z : ¬ s.2.1 = none := fun z => by have := hf z; have h4 : s.2.2 ≤ 400 := h1.2.2.2.2.1 z; omega
    refine S_M_product_10 (d := d + 4) (vI (u_isSg (k := 42) (by decide) rfl h1) fun x1 σ1 ⟨e1, i1⟩ => ?_)
    subst e1
    refine ⟨fun y => absurd (i1.mpr fun q => z q.1) y, fun _ => vI (u_isSg (k := 47) (by decide) rfl h1) fun x2 σ2 ⟨e2, i2⟩ => ?_⟩
    subst e2
    refine ⟨fun y => absurd (i2.mpr fun q => z q.1) y, fun _ => vI (u_isSg (k := 37) (by decide) rfl h1) fun x3 σ3 ⟨e3, i3⟩ => ?_⟩
    subst e3
    exact ⟨fun _ => h, fun y => absurd (i3.mpr fun q => z q.1) y⟩
  | succ f ih =>
    intro b s T x σ hf h
    obtain ⟨m, h1, -⟩ := id h
    rw [pL]
    have go : s.2.1 = none → lvl (oA t n s.1) = 2 → Wq 345 (d + 5) 37 [some (.ref 103), some (.int (nI wh)), some (.int x), none] [] σ (Qi (YT t n σ0 o K s0 lo σE (if s.2.1 = none ∧ lvl (oA t n s.1) = 2 then pL t n 2 P wh f false (P (nxt s)).1 (nd (if b then 11 else 12) (oA t n s.1) wh (aA t n (s.1 + 1)) 0 T (P (nxt s)).2) else (s, T)))) := by
      intro z c
      rw [if_pos ⟨z, c⟩]
      refine S_M_product_37 (d := d + 4) (y_step (wh := wh) (b := b) (Rst := fun y σ' => Wq 345 (d + 5) 10 [some (.ref 103), some (.int (nI wh)), some (.int y), none] [] σ' (Qi (YT t n σ0 o K s0 lo σE (pL t n 2 P wh f false (P (nxt s)).1 (nd (if b then 11 else 12) (oA t n s.1) wh (aA t n (s.1 + 1)) 0 T (P (nxt s)).2))))) (Or.inr (Or.inr rfl)) hP h z hs c hr fun y σ' hy ha => ?_)
      exact ih false _ _ _ _ (fun z2 => by have := ha z2; have := hf z; omega) hy
    have off : ∀ c, c = 42 ∨ c = 47 ∨ c = 37 → ¬ (s.2.1 = none ∧ kA t n s.1 = nI c) → s.2.1 = none → ¬ oA t n s.1 = c := fun c hc q z e => q ⟨z, (kA_o (by omega)).mpr e⟩
    refine S_M_product_10 (d := d + 4) (vI (u_isSg (k := 42) (by decide) rfl h1) fun x1 σ1 ⟨e1, i1⟩ => ?_)
    subst e1
    refine ⟨fun y => ?_, fun y1 => vI (u_isSg (k := 47) (by decide) rfl h1) fun x2 σ2 ⟨e2, i2⟩ => ?_⟩
    · have q := Classical.not_not.mp fun q => y (i1.mpr q)
      exact go q.1 (lvl_2.mpr (Or.inr (Or.inl ((kA_o (by decide)).mp q.2))))
    subst e2
    refine ⟨fun y => ?_, fun y2 => vI (u_isSg (k := 37) (by decide) rfl h1) fun x3 σ3 ⟨e3, i3⟩ => ?_⟩
    · have q := Classical.not_not.mp fun q => y (i2.mpr q)
      exact go q.1 (lvl_2.mpr (Or.inr (Or.inr ((kA_o (by decide)).mp q.2))))
    subst e3
    refine ⟨fun y3 => ?_, fun y => ?_⟩
    · rw [if_neg fun q => ?_]
      · exact h
      · have c := lvl_2.mp q.2
        have n1 := off 42 (Or.inl rfl) (i1.mp y1) q.1
        have n2 := off 47 (Or.inr (Or.inl rfl)) (i2.mp y2) q.1
        have n3 := off 37 (Or.inr (Or.inr rfl)) (i3.mp y3) q.1
        omega
    · have q := Classical.not_not.mp fun q => y (i3.mpr q)
      exact go q.1 (lvl_2.mpr (Or.inl ((kA_o (by decide)).mp q.2)))
theorem y_prod (hP : XP t n σ0 (d + 4) 346 o K R (P := P)) : XP t n σ0 (d + 5) 345 o K R (fun s => pL t n 2 P (aA t n s.1) 400 true (P s).1 (P s).2) := by
  intro s m σ h h0 hr
  refine S_M_product (d := d + 4) (vI (hP s m σ h h0 hr) fun x σ1 y => ?_)
  rw [h.at]
  refine y_prodW hP h0 hr 400 true _ _ x σ1 (fun z => ?_) y
  obtain ⟨m', -, -, y3, y4, -, y6⟩ := y
  have := (y6 z).1
  have y4' : s.2.2 ≤ (P s).1.2.2 := y4
  omega
/-- sums -/
theorem y_sumW {wh lo : Nat} (hP : XP t n σ0 (d + 4) 345 o K R P) (hs : s0.2.1 = none) (hr : lo + 3 * (401 - s0.2.2) + R ≤ 3000) : ∀ (f : Nat) (b : Bool) (s : PS) (T : Tr) (x : Int32) (σ : fkS), (s.2.1 = none → 401 ≤ f + s.2.2) → YT t n σ0 o K s0 lo σE (s, T) x σ → Wq 344 (d + 5) 10 [some (.ref 103), some (.int (nI wh)), some (.int x), none] [] σ (Qi (YT t n σ0 o K s0 lo σE (pL t n 1 P wh f b s T))) := by
  intro f
  induction f with
  | zero =>
    intro b s T x σ hf h
    obtain ⟨m, h1, -⟩ := id h
    have z : ¬ s.2.1 = none := fun z => by have := hf z; have h4 : s.2.2 ≤ 400 := h1.2.2.2.2.1 z; omega
    refine S_M_sum_10 (d := d + 4) (vI (u_isSg (k := 43) (by decide) rfl h1) fun x1 σ1 ⟨e1, i1⟩ => ?_)
    subst e1
    refine ⟨fun y => absurd (i1.mpr fun q => z q.1) y, fun _ => vI (u_isSg (k := 45) (by decide) rfl h1) fun x2 σ2 ⟨e2, i2⟩ => ?_⟩
    subst e2
    exact ⟨fun _ => h, fun y => absurd (i2.mpr fun q => z q.1) y⟩
  | succ f ih =>
    intro b s T x σ hf h
    obtain ⟨m, h1, -⟩ := id h
    rw [pL]
    have go : s.2.1 = none → lvl (oA t n s.1) = 1 → Wq 344 (d + 5) 28 [some (.ref 103), some (.int (nI wh)), some (.int x), none] [] σ (Qi (YT t n σ0 o K s0 lo σE (if s.2.1 = none ∧ lvl (oA t n s.1) = 1 then pL t n 1 P wh f false (P (nxt s)).1 (nd (if b then 11 else 12) (oA t n s.1) wh (aA t n (s.1 + 1)) 0 T (P (nxt s)).2) else (s, T)))) := by
      intro z c
      rw [if_pos ⟨z, c⟩]
      refine S_M_sum_28 (d := d + 4) (y_step (wh := wh) (b := b) (Rst := fun y σ' => Wq 344 (d + 5) 10 [some (.ref 103), some (.int (nI wh)), some (.int y), none] [] σ' (Qi (YT t n σ0 o K s0 lo σE (pL t n 1 P wh f false (P (nxt s)).1 (nd (if b then 11 else 12) (oA t n s.1) wh (aA t n (s.1 + 1)) 0 T (P (nxt s)).2))))) (Or.inr (Or.inl rfl)) hP h z hs c hr fun y σ' hy ha => ?_)
      exact ih false _ _ _ _ (fun z2 => by have := ha z2; have := hf z; omega) hy
    have off : ∀ c, c = 43 ∨ c = 45 → ¬ (s.2.1 = none ∧ kA t n s.1 = nI c) → s.2.1 = none → ¬ oA t n s.1 = c := fun c hc q z e => q ⟨z, (kA_o (by omega)).mpr e⟩
    refine S_M_sum_10 (d := d + 4) (vI (u_isSg (k := 43) (by decide) rfl h1) fun x1 σ1 ⟨e1, i1⟩ => ?_)
    subst e1
    refine ⟨fun y => ?_, fun y1 => vI (u_isSg (k := 45) (by decide) rfl h1) fun x2 σ2 ⟨e2, i2⟩ => ?_⟩
    · have q := Classical.not_not.mp fun q => y (i1.mpr q)
      exact go q.1 (lvl_1.mpr (Or.inl ((kA_o (by decide)).mp q.2)))
    subst e2
    refine ⟨fun y2 => ?_, fun y => ?_⟩
    · rw [if_neg fun q => ?_]
      · exact h
      · have c := lvl_1.mp q.2
        have n1 := off 43 (Or.inl rfl) (i1.mp y1) q.1
        have n2 := off 45 (Or.inr rfl) (i2.mp y2) q.1
        omega
    · have q := Classical.not_not.mp fun q => y (i2.mpr q)
      exact go q.1 (lvl_1.mpr (Or.inr ((kA_o (by decide)).mp q.2)))
theorem y_sum (hP : XP t n σ0 (d + 4) 345 o K R (P := P)) : XP t n σ0 (d + 5) 344 o K R (fun s => pL t n 1 P (aA t n s.1) 400 true (P s).1 (P s).2) := by
  intro s m σ h h0 hr
  refine S_M_sum (d := d + 4) (vI (hP s m σ h h0 hr) fun x σ1 y => ?_)
  rw [h.at]
  refine y_sumW hP h0 hr 400 true _ _ x σ1 (fun z => ?_) y
  obtain ⟨m', -, -, y3, y4, -, y6⟩ := y
  have := (y6 z).1
  have y4' : s.2.2 ≤ (P s).1.2.2 := y4
  omega
/-- < or == between, or one sum alone -/
theorem y_cmp (hP : XP t n σ0 (d + 4) 344 o K R (P := P)) {m : Nat} (h : PN t n σ0 s m o σ) (h0 : s.2.1 = none) (hr : m + 3 * (401 - s.2.2) + R ≤ 3000) : Ci (d + 5) 343 [.ref 103, .int (nI (aA t n s.1))] σ (YT t n σ0 o K s m σ (pL t n 0 P (aA t n s.1) 1 true (P s).1 (P s).2)) := by
  refine S_M_compare (d := d + 4) (vI (hP s m σ h h0 hr) fun x σ1 y => ?_)
  obtain ⟨m1, h1, -⟩ := id y
  rw [pL]
  have go : (P s).1.2.1 = none → lvl (oA t n (P s).1.1) = 0 → Wq 343 (d + 5) 25 [some (.ref 103), some (.int (nI (aA t n s.1))), some (.int x), none] [] σ1 (Qi (YT t n σ0 o K s m σ (if (P s).1.2.1 = none ∧ lvl (oA t n (P s).1.1) = 0 then pL t n 0 P (aA t n s.1) 0 false (P (nxt (P s).1)).1 (nd (if true then 11 else 12) (oA t n (P s).1.1) (aA t n s.1) (aA t n ((P s).1.1 + 1)) 0 (P s).2 (P (nxt (P s).1)).2) else ((P s).1, (P s).2)))) := by
    intro z c
    rw [if_pos ⟨z, c⟩]
    exact S_M_compare_25 (d := d + 4) (y_step (b := true) (wh := aA t n s.1) (Rst := fun y σ' => Qi (YT t n σ0 o K s m σ (pL t n 0 P (aA t n s.1) 0 false (P (nxt (P s).1)).1 (nd (if true then 11 else 12) (oA t n (P s).1.1) (aA t n s.1) (aA t n ((P s).1.1 + 1)) 0 (P s).2 (P (nxt (P s).1)).2))) (some (.int y)) σ') (Or.inl rfl) hP y z h0 c hr fun y σ' hy _ => hy)
  refine vI (u_isSg (k := 60) (by decide) rfl h1) fun x1 σ2 ⟨e1, i1⟩ => ?_
  subst e1
  refine ⟨fun y => ?_, fun y1 => vI (u_isSg (k := 128) (by decide) rfl h1) fun x2 σ3 ⟨e2, i2⟩ => ?_⟩
  · have q := Classical.not_not.mp fun q => y (i1.mpr q)
    exact go q.1 (lvl_0.mpr (Or.inl ((kA_o (by decide)).mp q.2)))
  subst e2
  refine ⟨fun y => ?_, fun y2 => ?_⟩
  · have q := Classical.not_not.mp fun q => y (i2.mpr q)
    exact go q.1 (lvl_0.mpr (Or.inr ((kA_o (by decide)).mp q.2)))
  · rw [if_neg fun q => ?_]
    · exact y
    · have c := lvl_0.mp q.2
      have n1 := i1.mp y1
      have n2 := i2.mp y2
      rcases c with c | c
      · exact n1 ⟨q.1, (kA_o (by decide)).mpr c⟩
      · exact n2 ⟨q.1, (kA_o (by decide)).mpr c⟩
end YLV
