/-! MORE ROWS: copies, Math; the state as it is told -/
theorem fk_tag_ty : (List.range 13).all (fun ci => ((fk_tg.getD ci []).mapIdx (fun j t => match t with
    | 0 => decide (fk_ty ci j = .int)
    | 1 => decide (fk_ty ci j = .boolean)
    | 3 => decide (fk_ty ci j = .long)
    | 5 => match fk_ty ci j with
      | .object _ => true
      | .array _ => true
      | _ => false
    | 4 => true
    | _ => false)).all id && decide ((fk_tg.getD ci []).length = ((fk_cls[ci]?).getD (RX0, TX0, 0)).2.2)) = true := by decide +kernel
theorem fk_tag {ci j t : Nat} (hc : ci < 13) (h : (fk_tg.getD ci [])[j]? = some t) : (t = 0 → fk_ty ci j = .int) ∧ (t = 1 → fk_ty ci j = .boolean) ∧ (t = 3 → fk_ty ci j = .long) ∧ (t = 5 → (∃ n, fk_ty ci j = .object n) ∨ ∃ n, fk_ty ci j = .array n) := by
  have h1 := List.all_eq_true.mp fk_tag_ty ci (List.mem_range.mpr hc)
  rw [Bool.and_eq_true] at h1
  have h2 := h1.1
  have h3 := List.all_eq_true.mp h2 _ (List.mem_of_getElem? (i := j) (by rw [List.getElem?_mapIdx, h]; rfl))
  refine ⟨fun e => ?_, fun e => ?_, fun e => ?_, fun e => ?_⟩ <;> subst e
  · exact of_decide_eq_true h3
  · exact of_decide_eq_true h3
  · exact of_decide_eq_true h3
  · simp only [id] at h3
    split at h3
    next n hn => exact Or.inl ⟨n, hn⟩
    next n hn => exact Or.inr ⟨n, hn⟩
    next => cases h3
section QM
variable {k d pc : Nat} {ls : List (Option Value)} {st : List Value} {σ : fkS} {Q : Option Value → fkS → Prop}
theorem fk_d1 (d : Nat) : 1 ≤ (fk_rm (d + 1)).frames := Nat.succ_le_succ (Nat.zero_le d)
theorem fk_d2 {d n : Nat} {g : fkG} (hst : (st.map fun v => v.category).sum ≤ 8) (hn : n ≤ 32) : ((st.map (fk_tr g)).map fun v => v.category).sum + n ≤ (fk_rm (d + 1)).locals := by
  rw [fk_catsum]
  show _ ≤ 40 * (d + 1)
  omega
theorem q_max {idx : Nat} {x y : Int32} (hd : decode (fk_M k).2.1 pc = .ok (.invokestatic idx, 3)) (hl0 : Cond.methodLink (fk_M k).1.cls idx Lib.Math.max.name ∈ lw_tbl) (hi : Cond.static Lib.Math.max.name ∈ lw_tbl) (hin : Cond.initialized "java/lang/Math" ∈ lw_tbl) (hco : Cond.code Lib.Math.max.name Lib.Math.max.code 2 (some .int) ∈ lw_tbl) (hst : (st.map fun v => v.category).sum ≤ 8)
    (h : Wq k (d + 1) (pc + 3) ls (.int (if x < y then y else x) :: st) σ Q) : Wq k (d + 1) pc ls (.int y :: .int x :: st) σ Q := by
  intro g p l e s m args below meth c H locs lsM X hP hS hl
  obtain ⟨x1, x2, x3, x4, x5, x6, x7, x8, x9, x10, x11⟩ := id X
  exact va_mmax x1 x2 (x3.trans hl.1.symm) x6 (x7 _ (fk_inW hl0 rfl)) (x7 _ (fk_inW hi rfl)) (x7 _ (fk_inW hin rfl)) (x7 _ (fk_inW hco rfl)) (fk_d1 d) (fk_d2 hst (by omega)) (Nat.le_refl _) (Nat.le_refl _) hd (h g p l e s m args below meth c H locs lsM X hP hS hl)
theorem q_min {idx : Nat} {x y : Int32} (hd : decode (fk_M k).2.1 pc = .ok (.invokestatic idx, 3)) (hl0 : Cond.methodLink (fk_M k).1.cls idx Lib.Math.min.name ∈ lw_tbl) (hi : Cond.static Lib.Math.min.name ∈ lw_tbl) (hin : Cond.initialized "java/lang/Math" ∈ lw_tbl) (hco : Cond.code Lib.Math.min.name Lib.Math.min.code 2 (some .int) ∈ lw_tbl) (hst : (st.map fun v => v.category).sum ≤ 8)
    (h : Wq k (d + 1) (pc + 3) ls (.int (if y < x then y else x) :: st) σ Q) : Wq k (d + 1) pc ls (.int y :: .int x :: st) σ Q := by
  intro g p l e s m args below meth c H locs lsM X hP hS hl
  obtain ⟨x1, x2, x3, x4, x5, x6, x7, x8, x9, x10, x11⟩ := id X
  exact va_mmin x1 x2 (x3.trans hl.1.symm) x6 (x7 _ (fk_inW hl0 rfl)) (x7 _ (fk_inW hi rfl)) (x7 _ (fk_inW hin rfl)) (x7 _ (fk_inW hco rfl)) (fk_d1 d) (fk_d2 hst (by omega)) (Nat.le_refl _) (Nat.le_refl _) hd (h g p l e s m args below meth c H locs lsM X hP hS hl)
theorem q_lmin {idx : Nat} {x y : Int64} (hd : decode (fk_M k).2.1 pc = .ok (.invokestatic idx, 3)) (hl0 : Cond.methodLink (fk_M k).1.cls idx Lib.MathLoose.min_long.x ∈ lw_tbl) (hi : Cond.static Lib.MathLoose.min_long.x ∈ lw_tbl) (hin : Cond.initialized "java/lang/Math" ∈ lw_tbl) (hco : Cond.code Lib.MathLoose.min_long.x Lib.MathLoose.min_long.code 4 (some .long) ∈ lw_tbl) (hst : (st.map fun v => v.category).sum ≤ 8)
    (h : Wq k (d + 1) (pc + 3) ls (.long (if y < x then y else x) :: st) σ Q) : Wq k (d + 1) pc ls (.long y :: .long x :: st) σ Q := by
  intro g p l e s m args below meth c H locs lsM X hP hS hl
  obtain ⟨x1, x2, x3, x4, x5, x6, x7, x8, x9, x10, x11⟩ := id X
  exact va_mmin_long x1 x2 (x3.trans hl.1.symm) x6 (x7 _ (fk_inW hl0 rfl)) (x7 _ (fk_inW hi rfl)) (x7 _ (fk_inW hin rfl)) (x7 _ (fk_inW hco rfl)) (fk_d1 d) (fk_d2 hst (by omega)) (Nat.le_refl _) (Nat.le_refl _) hd (h g p l e s m args below meth c H locs lsM X hP hS hl)
theorem fk_natw : nativeFrameWords "java/lang/System" "arraycopy" 5 + 11 ≤ 32 := by decide +kernel
theorem q_copyI {idx a b n0 n1 t : Nat} {sp dp n : Int32} {ty : FieldType} (hd : decode (fk_M k).2.1 pc = .ok (.invokestatic idx, 3)) (hl0 : Cond.methodLink (fk_M k).1.cls idx arraycopyName ∈ lw_tbl) (hna : Cond.native arraycopyName ∈ lw_tbl) (hi : Cond.static arraycopyName ∈ lw_tbl) (hin : Cond.initialized "java/lang/System" ∈ lw_tbl)
    (ht : (t = 0 ∧ ty = .int) ∨ (t = 2 ∧ ty = .byte)) (ha : fk_sh[a]? = some (t, n0)) (hb : fk_sh[b]? = some (t, n1)) (h1 : ¬ sp < 0) (h2 : ¬ dp < 0) (h3 : ¬ n < 0) (h4 : sp.toNatClampNeg + n.toNatClampNeg ≤ n0) (h5 : dp.toNatClampNeg + n.toNatClampNeg ≤ n1) (h6 : t = 2 → ∀ i, i < n.toNatClampNeg → fits .byte (.int (σ.1 a (sp.toNatClampNeg + i))) = true) (hst : (st.map fun v => v.category).sum ≤ 8)
    (h : Wq k (d + 1) (pc + 3) ls st (sAI σ b (va_cpy (σ.1 a) (σ.1 b) sp.toNatClampNeg dp.toNatClampNeg n.toNatClampNeg)) Q) : Wq k (d + 1) pc ls (.int n :: .int dp :: .ref b :: .int sp :: .ref a :: st) σ Q := by
  intro g p l e s m args below meth c H locs lsM X hP hS hl
  obtain ⟨x1, x2, x3, x4, x5, x6, x7, x8, x9, x10, x11⟩ := id X
  rcases ht with ⟨rfl, rfl⟩ | ⟨rfl, rfl⟩
  · refine va_copyi x1 x2 (x3.trans hl.1.symm) x6 (x7 _ (fk_inW hl0 rfl)) (x7 _ (fk_inW hna rfl)) (x7 _ (fk_inW hi rfl)) (x7 _ (fk_inW hin rfl)) x8 hP (fk_D x11) hS a b 0 0 (fk_ws_get ha) (fk_ws_get hb) rfl rfl rfl h1 h2 h3 h4 h5 (fun _ _ => rfl) (fk_d1 d) (fk_d2 hst fk_natw) hd (fun H1 locs1 hP1 _ hS1 => ?_)
    have ee := fk_setAI (σ := σ) (g := g) (f := va_cpy (σ.1 a) (σ.1 b) sp.toNatClampNeg dp.toNatClampNeg n.toNatClampNeg) (x := .inl (g.2.2 0, n1, .inl (va_cpy (σ.1 a) (σ.1 b) sp.toNatClampNeg dp.toNatClampNeg n.toNatClampNeg))) hb rfl
    exact h g p l e s m args below meth c H1 locs1 lsM X (ee ▸ hP1) hS1 hl
  · refine va_copyi x1 x2 (x3.trans hl.1.symm) x6 (x7 _ (fk_inW hl0 rfl)) (x7 _ (fk_inW hna rfl)) (x7 _ (fk_inW hi rfl)) (x7 _ (fk_inW hin rfl)) x8 hP (fk_D x11) hS a b 2 2 (fk_ws_get ha) (fk_ws_get hb) rfl rfl rfl h1 h2 h3 h4 h5 (h6 rfl) (fk_d1 d) (fk_d2 hst fk_natw) hd (fun H1 locs1 hP1 _ hS1 => ?_)
    have ee := fk_setAI (σ := σ) (g := g) (f := va_cpy (σ.1 a) (σ.1 b) sp.toNatClampNeg dp.toNatClampNeg n.toNatClampNeg) (x := .inl (g.2.2 2, n1, .inl (va_cpy (σ.1 a) (σ.1 b) sp.toNatClampNeg dp.toNatClampNeg n.toNatClampNeg))) hb rfl
    exact h g p l e s m args below meth c H1 locs1 lsM X (ee ▸ hP1) hS1 hl
theorem q_copyL {idx a b n0 n1 : Nat} {sp dp n : Int32} (hd : decode (fk_M k).2.1 pc = .ok (.invokestatic idx, 3)) (hl0 : Cond.methodLink (fk_M k).1.cls idx arraycopyName ∈ lw_tbl) (hna : Cond.native arraycopyName ∈ lw_tbl) (hi : Cond.static arraycopyName ∈ lw_tbl) (hin : Cond.initialized "java/lang/System" ∈ lw_tbl)
    (ha : fk_sh[a]? = some (1, n0)) (hb : fk_sh[b]? = some (1, n1)) (h1 : ¬ sp < 0) (h2 : ¬ dp < 0) (h3 : ¬ n < 0) (h4 : sp.toNatClampNeg + n.toNatClampNeg ≤ n0) (h5 : dp.toNatClampNeg + n.toNatClampNeg ≤ n1) (hst : (st.map fun v => v.category).sum ≤ 8)
    (h : Wq k (d + 1) (pc + 3) ls st (sAL σ b (va_cpy (σ.2.1 a) (σ.2.1 b) sp.toNatClampNeg dp.toNatClampNeg n.toNatClampNeg)) Q) : Wq k (d + 1) pc ls (.int n :: .int dp :: .ref b :: .int sp :: .ref a :: st) σ Q := by
  intro g p l e s m args below meth c H locs lsM X hP hS hl
  obtain ⟨x1, x2, x3, x4, x5, x6, x7, x8, x9, x10, x11⟩ := id X
  refine va_copyl x1 x2 (x3.trans hl.1.symm) x6 (x7 _ (fk_inW hl0 rfl)) (x7 _ (fk_inW hna rfl)) (x7 _ (fk_inW hi rfl)) (x7 _ (fk_inW hin rfl)) x8 hP (fk_D x11) hS a b 1 1 (fk_ws_get ha) (fk_ws_get hb) rfl rfl rfl h1 h2 h3 h4 h5 (fun _ _ => rfl) (fk_d1 d) (fk_d2 hst fk_natw) hd (fun H1 locs1 hP1 _ hS1 => ?_)
  have ee := fk_setAL (σ := σ) (g := g) (f := va_cpy (σ.2.1 a) (σ.2.1 b) sp.toNatClampNeg dp.toNatClampNeg n.toNatClampNeg) (x := .inl (g.2.2 1, n1, .inr (.inl (va_cpy (σ.2.1 a) (σ.2.1 b) sp.toNatClampNeg dp.toNatClampNeg n.toNatClampNeg)))) hb rfl
  exact h g p l e s m args below meth c H1 locs1 lsM X (ee ▸ hP1) hS1 hl
end QM
