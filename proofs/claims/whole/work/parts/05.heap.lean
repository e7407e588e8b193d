/-! THE ROWS OF THE SMALL MACHINE that touch cells, returns and calls -/
theorem fk_en_obj (a : Nat → Int32) (b : Nat → Int64) (c : Nat → Nat) (g : fkG) (i ci n : Nat) : fk_en a b c g i (ci + 4, n) = .inr (ci, fk_fs a b c g i (fk_tg.getD ci [])) := rfl
theorem fk_fv_o {a a' : Nat → Int32} {b b' : Nat → Int64} {c c' : Nat → Nat} {g : fkG} {i j t : Nat} (h1 : a' j = a j) (h2 : b' j = b j) (h3 : c' j = c j) : fk_fv a' b' c' g i j t = fk_fv a b c g i j t := by
  unfold fk_fv
  rw [h1, h2, h3]
theorem fk_fs_get {a : Nat → Int32} {b : Nat → Int64} {c : Nat → Nat} {g : fkG} {i : Nat} {ts : List Nat} {j t : Nat} (h : ts[j]? = some t) : (fk_fs a b c g i ts)[j]? = some (fk_fv a b c g i j t) := by
  simp [fk_fs, List.getElem?_mapIdx, h]
theorem fk_fs_set {a a' : Nat → Int32} {b b' : Nat → Int64} {c c' : Nat → Nat} {g : fkG} {i : Nat} {ts : List Nat} {slot t : Nat} {x : Value} (ht : ts[slot]? = some t) (hx : fk_fv a' b' c' g i slot t = x) (ho : ∀ j, j ≠ slot → a' j = a j ∧ b' j = b j ∧ c' j = c j) : (fk_fs a b c g i ts).set slot x = fk_fs a' b' c' g i ts := by
  apply List.ext_getElem?
  intro j
  rw [List.getElem?_set]
  by_cases hj : slot = j
  · subst hj
    have hl : slot < (fk_fs a b c g i ts).length := (List.getElem?_eq_some_iff.mp (fk_fs_get ht)).1
    rw [if_pos rfl, if_pos hl, fk_fs_get ht, hx]
  · rw [if_neg hj]
    obtain ⟨e1, e2, e3⟩ := ho j (Ne.symm hj)
    simp only [fk_fs, List.getElem?_mapIdx]
    cases ts[j]? with
    | none => rfl
    | some u => simp only [Option.map_some]; rw [fk_fv_o e1 e2 e3]
theorem fk_lay_good {C : String} {T : u_T} {N : Nat} : ∀ w ∈ u_ws C T N, goodWord w = true := by
  intro w hw
  unfold u_ws at hw
  obtain ⟨k, -, rfl⟩ := List.mem_map.mp hw
  unfold u_lay
  split <;> rfl
theorem fk_bool {x : Int32} (h : x = 0 ∨ x = 1) : narrow .boolean (.int x) = .int x ∧ fits .boolean (.int x) = true ∧ vp_nar .boolean x = x := by
  rcases h with rfl | rfl <;> exact ⟨by decide, by decide, by decide⟩
section QH
variable {k d pc : Nat} {ls : List (Option Value)} {st : List Value} {σ : fkS} {Q : Option Value → fkS → Prop}
theorem q_get {r ci slot t n idx N : Nat} {C : String} {T : u_T} {v : Value} (hd : decode (fk_M k).2.1 pc = .ok (.getfield idx, 3)) (hsh : fk_sh[r]? = some (ci + 4, n)) (htg : (fk_tg.getD ci [])[slot]? = some t) (hc : fk_cls[ci]? = some (C, T, N)) (hk : slot < N)
    (hw : Cond.fieldLink (fk_M k).1.cls idx (T slot).1 (T slot).2.1 (T slot).2.2.1 ∈ lw_tbl) (hv : ∀ g : fkG, fk_fv (σ.1 r) (σ.2.1 r) (σ.2.2 r) g r slot t = fk_tr g v) (h : Wq k d (pc + 3) ls (v :: st) σ Q) : Wq k d pc ls (.ref r :: st) σ Q := by
  intro g p l e s m args below meth c H locs lsM X hP hS hl
  obtain ⟨x1, x2, x3, x4, x5, x6, x7, x8, x9, x10, x11⟩ := id X
  obtain ⟨f1, f2, f3⟩ := fk_cfacts hc
  exact va_get (Ts := fk_W) x1 x2 x7 (fun w h => fk_inW (f1 w h) (fk_lay_good w h)) x6 x8 hP r (fk_ws_get hsh) hc slot hk (x7 _ (fk_inW hw rfl)) (fun x h => h) (v := fk_tr g v) (by rw [fk_fs_get htg, hv g]) hd (h g p l e s m args below meth c H locs lsM X hP hS hl)
theorem q_getN {r ci slot t n idx N : Nat} {C host : String} {T : u_T} {v : Value} (hd : decode (fk_M k).2.1 pc = .ok (.getfield idx, 3)) (hsh : fk_sh[r]? = some (ci + 4, n)) (htg : (fk_tg.getD ci [])[slot]? = some t) (hc : fk_cls[ci]? = some (C, T, N)) (hk : slot < N)
    (hw : Cond.fieldLinkNest (fk_M k).1.cls idx (T slot).1 (T slot).2.1 (T slot).2.2.1 host ∈ lw_tbl) (hv : ∀ g : fkG, fk_fv (σ.1 r) (σ.2.1 r) (σ.2.2 r) g r slot t = fk_tr g v) (h : Wq k d (pc + 3) ls (v :: st) σ Q) : Wq k d pc ls (.ref r :: st) σ Q := by
  intro g p l e s m args below meth c H locs lsM X hP hS hl
  obtain ⟨x1, x2, x3, x4, x5, x6, x7, x8, x9, x10, x11⟩ := id X
  obtain ⟨f1, f2, f3⟩ := fk_cfacts hc
  exact va_getN (Ts := fk_W) x1 x2 x7 (fun w h => fk_inW (f1 w h) (fk_lay_good w h)) x6 x8 hP r (fk_ws_get hsh) hc slot hk (va_Nw.use rfl (x10.1 _ hw rfl)) (fun x h => h) (v := fk_tr g v) (by rw [fk_fs_get htg, hv g]) hd (h g p l e s m args below meth c H locs lsM X hP hS hl)
theorem q_put {r ci slot t n idx N : Nat} {C : String} {T : u_T} {v : Value} {σ' : fkS} {ty : FieldType} (hd : decode (fk_M k).2.1 pc = .ok (.putfield idx, 3)) (hsh : fk_sh[r]? = some (ci + 4, n)) (htg : (fk_tg.getD ci [])[slot]? = some t) (hc : fk_cls[ci]? = some (C, T, N)) (hk : slot < N)
    (hw : Cond.fieldLink (fk_M k).1.cls idx (T slot).1 (T slot).2.1 (T slot).2.2.1 ∈ lw_tbl) (hfin : (T slot).2.2.2 = false) (hp : parseFieldDescriptor (T slot).2.2.1 = some ty) (hn : ∀ g : fkG, narrow ty (fk_tr g v) = fk_tr g v) (hf : ∀ g : fkG, fits ty (fk_tr g v) = true)
    (hv : ∀ g : fkG, fk_fv (σ'.1 r) (σ'.2.1 r) (σ'.2.2 r) g r slot t = fk_tr g v) (ho : ∀ j, j ≠ slot → σ'.1 r j = σ.1 r j ∧ σ'.2.1 r j = σ.2.1 r j ∧ σ'.2.2 r j = σ.2.2 r j) (hq : ∀ a, a ≠ r → σ'.1 a = σ.1 a ∧ σ'.2.1 a = σ.2.1 a ∧ σ'.2.2 a = σ.2.2 a) (h : Wq k d (pc + 3) ls st σ' Q) : Wq k d pc ls (v :: .ref r :: st) σ Q := by
  intro g p l e s m args below meth c H locs lsM X hP hS hl
  obtain ⟨x1, x2, x3, x4, x5, x6, x7, x8, x9, x10, x11⟩ := id X
  obtain ⟨f1, f2, f3⟩ := fk_cfacts hc
  have hlen : slot < (fk_fs (σ.1 r) (σ.2.1 r) (σ.2.2 r) g r (fk_tg.getD ci [])).length := (List.getElem?_eq_some_iff.mp (fk_fs_get htg)).1
  refine va_put (Ts := fk_W) x1 x2 x7 (fun w h => fk_inW (f1 w h) (fk_lay_good w h)) (fk_ty ci) f2 f3 x6 x8 hP (fk_D x11) hS r (fk_ws_get hsh) hc slot hk (x7 _ (fk_inW hw rfl)) (fun x h => h) hfin hp (hn g) (hf g) hlen hd (fun H1 locs1 hP1 _ hS1 => ?_)
  rw [fk_ws_set (σ' := σ') hsh (by rw [fk_en_obj]; exact congrArg (fun z => Sum.inr (ci, z)) (fk_fs_set htg (hv g) ho)) hq] at hP1
  exact h g p l e s m args below meth c H1 locs1 lsM X hP1 hS1 hl
theorem q_putN {r ci slot t n idx N : Nat} {C host : String} {T : u_T} {v : Value} {σ' : fkS} {ty : FieldType} (hd : decode (fk_M k).2.1 pc = .ok (.putfield idx, 3)) (hsh : fk_sh[r]? = some (ci + 4, n)) (htg : (fk_tg.getD ci [])[slot]? = some t) (hc : fk_cls[ci]? = some (C, T, N)) (hk : slot < N)
    (hw : Cond.fieldLinkNest (fk_M k).1.cls idx (T slot).1 (T slot).2.1 (T slot).2.2.1 host ∈ lw_tbl) (hfin : (T slot).2.2.2 = false) (hp : parseFieldDescriptor (T slot).2.2.1 = some ty) (hn : ∀ g : fkG, narrow ty (fk_tr g v) = fk_tr g v) (hf : ∀ g : fkG, fits ty (fk_tr g v) = true)
    (hv : ∀ g : fkG, fk_fv (σ'.1 r) (σ'.2.1 r) (σ'.2.2 r) g r slot t = fk_tr g v) (ho : ∀ j, j ≠ slot → σ'.1 r j = σ.1 r j ∧ σ'.2.1 r j = σ.2.1 r j ∧ σ'.2.2 r j = σ.2.2 r j) (hq : ∀ a, a ≠ r → σ'.1 a = σ.1 a ∧ σ'.2.1 a = σ.2.1 a ∧ σ'.2.2 a = σ.2.2 a) (h : Wq k d (pc + 3) ls st σ' Q) : Wq k d pc ls (v :: .ref r :: st) σ Q := by
  intro g p l e s m args below meth c H locs lsM X hP hS hl
  obtain ⟨x1, x2, x3, x4, x5, x6, x7, x8, x9, x10, x11⟩ := id X
  obtain ⟨f1, f2, f3⟩ := fk_cfacts hc
  have hlen : slot < (fk_fs (σ.1 r) (σ.2.1 r) (σ.2.2 r) g r (fk_tg.getD ci [])).length := (List.getElem?_eq_some_iff.mp (fk_fs_get htg)).1
  refine va_putN (Ts := fk_W) x1 x2 x7 (fun w h => fk_inW (f1 w h) (fk_lay_good w h)) (fk_ty ci) f2 f3 x6 x8 hP (fk_D x11) hS r (fk_ws_get hsh) hc slot hk (va_Nw.use rfl (x10.1 _ hw rfl)) (fun x h => h) hfin hp (hn g) (hf g) hlen hd (fun H1 locs1 hP1 _ hS1 => ?_)
  rw [fk_ws_set (σ' := σ') hsh (by rw [fk_en_obj]; exact congrArg (fun z => Sum.inr (ci, z)) (fk_fs_set htg (hv g) ho)) hq] at hP1
  exact h g p l e s m args below meth c H1 locs1 lsM X hP1 hS1 hl
theorem q_iald {r n : Nat} {i : Int32} (hd : decode (fk_M k).2.1 pc = .ok (.iaload, 1)) (hsh : fk_sh[r]? = some (0, n)) (hi : vp_in i n) (h : Wq k d (pc + 1) ls (.int (σ.1 r i.toNatClampNeg) :: st) σ Q) : Wq k d pc ls (.int i :: .ref r :: st) σ Q := by
  intro g p l e s m args below meth c H locs lsM X hP hS hl
  obtain ⟨x1, x2, x3, x4, x5, x6, x7, x8, x9, x10, x11⟩ := id X
  exact va_iald x1 x2 x8 hP r 0 (fk_ws_get hsh) rfl hi hd (h g p l e s m args below meth c H locs lsM X hP hS hl)
theorem q_lald {r n : Nat} {i : Int32} (hd : decode (fk_M k).2.1 pc = .ok (.laload, 1)) (hsh : fk_sh[r]? = some (1, n)) (hi : vp_in i n) (h : Wq k d (pc + 1) ls (.long (σ.2.1 r i.toNatClampNeg) :: st) σ Q) : Wq k d pc ls (.int i :: .ref r :: st) σ Q := by
  intro g p l e s m args below meth c H locs lsM X hP hS hl
  obtain ⟨x1, x2, x3, x4, x5, x6, x7, x8, x9, x10, x11⟩ := id X
  exact va_lald x1 x2 x8 hP r 1 (fk_ws_get hsh) rfl hi hd (h g p l e s m args below meth c H locs lsM X hP hS hl)
theorem q_bald {r n : Nat} {i : Int32} (hd : decode (fk_M k).2.1 pc = .ok (.baload, 1)) (hsh : fk_sh[r]? = some (2, n)) (hi : vp_in i n) (h : Wq k d (pc + 1) ls (.int (σ.1 r i.toNatClampNeg) :: st) σ Q) : Wq k d pc ls (.int i :: .ref r :: st) σ Q := by
  intro g p l e s m args below meth c H locs lsM X hP hS hl
  obtain ⟨x1, x2, x3, x4, x5, x6, x7, x8, x9, x10, x11⟩ := id X
  exact va_bald x1 x2 x8 hP r 2 (fk_ws_get hsh) rfl hi hd (h g p l e s m args below meth c H locs lsM X hP hS hl)
theorem q_zald {r n : Nat} {i : Int32} (hd : decode (fk_M k).2.1 pc = .ok (.baload, 1)) (hsh : fk_sh[r]? = some (3, n)) (hi : vp_in i n) (h : Wq k d (pc + 1) ls (.int (σ.1 r i.toNatClampNeg) :: st) σ Q) : Wq k d pc ls (.int i :: .ref r :: st) σ Q := by
  intro g p l e s m args below meth c H locs lsM X hP hS hl
  obtain ⟨x1, x2, x3, x4, x5, x6, x7, x8, x9, x10, x11⟩ := id X
  exact va_zald x1 x2 x8 hP r 3 (fk_ws_get hsh) rfl hi hd (h g p l e s m args below meth c H locs lsM X hP hS hl)
theorem q_iast {r n : Nat} {i v : Int32} (hd : decode (fk_M k).2.1 pc = .ok (.iastore, 1)) (hsh : fk_sh[r]? = some (0, n)) (hi : vp_in i n) (h : Wq k d (pc + 1) ls st (sI σ r i.toNatClampNeg v) Q) : Wq k d pc ls (.int v :: .int i :: .ref r :: st) σ Q := by
  intro g p l e s m args below meth c H locs lsM X hP hS hl
  obtain ⟨x1, x2, x3, x4, x5, x6, x7, x8, x9, x10, x11⟩ := id X
  refine va_iast x1 x2 x8 hP (fk_D x11) hS r 0 (fk_ws_get hsh) rfl hi hd (fun H1 locs1 hP1 _ hS1 => ?_)
  have ee := fk_setI (σ := σ) (g := g) (j := i.toNatClampNeg) (v := v) (x := .inl (g.2.2 0, n, .inl (upd (σ.1 r) i.toNatClampNeg v))) hsh rfl
  exact h g p l e s m args below meth c H1 locs1 lsM X (ee ▸ hP1) hS1 hl
theorem q_last {r n : Nat} {i : Int32} {v : Int64} (hd : decode (fk_M k).2.1 pc = .ok (.lastore, 1)) (hsh : fk_sh[r]? = some (1, n)) (hi : vp_in i n) (h : Wq k d (pc + 1) ls st (sL σ r i.toNatClampNeg v) Q) : Wq k d pc ls (.long v :: .int i :: .ref r :: st) σ Q := by
  intro g p l e s m args below meth c H locs lsM X hP hS hl
  obtain ⟨x1, x2, x3, x4, x5, x6, x7, x8, x9, x10, x11⟩ := id X
  refine va_last x1 x2 x8 hP (fk_D x11) hS r 1 (fk_ws_get hsh) rfl hi hd (fun H1 locs1 hP1 _ hS1 => ?_)
  have ee := fk_setL (σ := σ) (g := g) (j := i.toNatClampNeg) (v := v) (x := .inl (g.2.2 1, n, .inr (.inl (vp_updL (σ.2.1 r) i.toNatClampNeg v)))) hsh rfl
  exact h g p l e s m args below meth c H1 locs1 lsM X (ee ▸ hP1) hS1 hl
theorem q_bast {r n : Nat} {i v : Int32} (hd : decode (fk_M k).2.1 pc = .ok (.bastore, 1)) (hsh : fk_sh[r]? = some (2, n)) (hi : vp_in i n) (h : Wq k d (pc + 1) ls st (sI σ r i.toNatClampNeg v.toInt8.toInt32) Q) : Wq k d pc ls (.int v :: .int i :: .ref r :: st) σ Q := by
  intro g p l e s m args below meth c H locs lsM X hP hS hl
  obtain ⟨x1, x2, x3, x4, x5, x6, x7, x8, x9, x10, x11⟩ := id X
  refine va_bast x1 x2 x8 hP (fk_D x11) hS r 2 (fk_ws_get hsh) rfl hi hd (fun H1 locs1 hP1 _ hS1 => ?_)
  rw [vp_nar_byte] at hP1
  have ee := fk_setI (σ := σ) (g := g) (j := i.toNatClampNeg) (v := v.toInt8.toInt32) (x := .inl (g.2.2 2, n, .inl (upd (σ.1 r) i.toNatClampNeg v.toInt8.toInt32))) hsh rfl
  exact h g p l e s m args below meth c H1 locs1 lsM X (ee ▸ hP1) hS1 hl
theorem q_zast {r n : Nat} {i v : Int32} (hd : decode (fk_M k).2.1 pc = .ok (.bastore, 1)) (hsh : fk_sh[r]? = some (3, n)) (hi : vp_in i n) (hv : v = 0 ∨ v = 1) (h : Wq k d (pc + 1) ls st (sI σ r i.toNatClampNeg v) Q) : Wq k d pc ls (.int v :: .int i :: .ref r :: st) σ Q := by
  intro g p l e s m args below meth c H locs lsM X hP hS hl
  obtain ⟨x1, x2, x3, x4, x5, x6, x7, x8, x9, x10, x11⟩ := id X
  refine va_zast x1 x2 x8 hP (fk_D x11) hS r 3 (fk_ws_get hsh) rfl hi hd (fun H1 locs1 hP1 _ hS1 => ?_)
  rw [(fk_bool hv).2.2] at hP1
  have ee := fk_setI (σ := σ) (g := g) (j := i.toNatClampNeg) (v := v) (x := .inl (g.2.2 3, n, .inl (upd (σ.1 r) i.toNatClampNeg v))) hsh rfl
  exact h g p l e s m args below meth c H1 locs1 lsM X (ee ▸ hP1) hS1 hl
theorem q_alen {r t n : Nat} {ty : FieldType} (hd : decode (fk_M k).2.1 pc = .ok (.arraylength, 1)) (hsh : fk_sh[r]? = some (t, n)) (ht : t < 4) (h : Wq k d (pc + 1) ls (.int (Int32.ofNat n) :: st) σ Q) : Wq k d pc ls (.ref r :: st) σ Q := by
  intro g p l e s m args below meth c H locs lsM X hP hS hl
  obtain ⟨x1, x2, x3, x4, x5, x6, x7, x8, x9, x10, x11⟩ := id X
  have hh := h g p l e s m args below meth c H locs lsM X hP hS hl
  match t, ht, hsh with
  | 0, _, hsh => exact va_alen x1 x2 x8 hP r (fk_ws_get hsh) (t0 := 0) rfl rfl hd hh
  | 1, _, hsh => exact va_alen x1 x2 x8 hP r (fk_ws_get hsh) (t0 := 1) rfl rfl hd hh
  | 2, _, hsh => exact va_alen x1 x2 x8 hP r (fk_ws_get hsh) (t0 := 2) rfl rfl hd hh
  | 3, _, hsh => exact va_alen x1 x2 x8 hP r (fk_ws_get hsh) (t0 := 3) rfl rfl hd hh
  | t + 4, ht, _ => omega
theorem q_hget {idx : Nat} (hd : decode (fk_M k).2.1 pc = .ok (.getstatic idx, 3)) (hw : Cond.fieldLink (fk_M k).1.cls idx "FoldForge$ModuleReader" "HEADER" "[I" ∈ lw_tbl) (h : Wq k d (pc + 3) ls (.ref 1000 :: st) σ Q) : Wq k d pc ls st σ Q := by
  intro g p l e s m args below meth c H locs lsM X hP hS hl
  obtain ⟨x1, x2, x3, x4, x5, x6, x7, x8, x9, x10, x11⟩ := id X
  exact va_gets x1 x2 x9.1 hS x6 (x7 _ (fk_inW hw rfl)) (fun x h => h) hd (h g p l e s m args below meth c H locs lsM X hP hS hl)
theorem q_hald {i : Int32} (hd : decode (fk_M k).2.1 pc = .ok (.iaload, 1)) (hi : vp_in i 8) (h : Wq k d (pc + 1) ls (.int (fk_hd i.toNatClampNeg) :: st) σ Q) : Wq k d pc ls (.int i :: .ref 1000 :: st) σ Q := by
  intro g p l e s m args below meth c H locs lsM X hP hS hl
  obtain ⟨x1, x2, x3, x4, x5, x6, x7, x8, x9, x10, x11⟩ := id X
  exact va_ti x1 x2 x9.2.1 hS hi rfl hd (h g p l e s m args below meth c H locs lsM X hP hS hl)
theorem q_hlen (hd : decode (fk_M k).2.1 pc = .ok (.arraylength, 1)) (h : Wq k d (pc + 1) ls (.int 8 :: st) σ Q) : Wq k d pc ls (.ref 1000 :: st) σ Q := by
  intro g p l e s m args below meth c H locs lsM X hP hS hl
  obtain ⟨x1, x2, x3, x4, x5, x6, x7, x8, x9, x10, x11⟩ := id X
  exact va_tlen x1 x2 x9.2.1 hS rfl hd (h g p l e s m args below meth c H locs lsM X hP hS hl)
/-! String constants -/
/-- a String constant by its wide entry -/
theorem fk_ldcwS {p : Program} {l : Launch} {e : Env} {R : Room} {s : State} {m : MethodId} {args : Array Value} {below : List Frame} {meth : Method} {c : Code} {H : Heap} {locs : List Loc} {cells slots : Nat} {QQ : State → Prop} {cc : ByteArray} {pc : Nat} {lsM : Array Slot} {rest : List Value}
    (hexec : p.tables.exec = Jvm.exec) (hb : c.code = cc) {own tx : String} {index q : Nat} (hown : s.vm.findClass own = some m.cls) (hZ : vk_R own index tx q s) (hdg : decode cc pc = .ok (.ldc_w index, 3))
    (kk : W p l e R s m args below meth c H locs cells slots QQ (F0 m (pc + 3) lsM (.ref q :: rest))) : W p l e R s m args below meth c H locs cells slots QQ (F0 m pc lsM rest) := by
  intro T hT X
  obtain ⟨t, a1, b1⟩ := kk T hT X
  refine ⟨t, ?_, b1⟩
  obtain ⟨k0, cf, i, a', hk, hcf, hcp, -, hr, hev'⟩ := Cond.stringRef_spec hown hZ.1
  cases hZ.2.symm.trans hev'
  obtain ⟨k', hk', he⟩ := X.warmed.alike.2.2 _ _ hk
  have hr' : k'.resolved[index]? = some (some (.string q)) := by
    rcases X.warmed.entry hk hk' index with h | ⟨h, -⟩
    · rw [h]; exact hr
    · rw [hr] at h; cases h
  have hdg' : decode c.code pc = .ok (.ldc_w index, 3) := by rw [hb]; exact hdg
  jvm_step X.here [hexec, hdg', Jvm.Op.ldc_w.wp_string (e := e) (s := T) (f := F0 m pc lsM rest) X.here.top hk' (by rw [he]; exact hcf) hcp hr']
  exact a1
theorem q_ldcwS {i idx : Nat} {q : fkL} (hd : decode (fk_M k).2.1 pc = .ok (.ldc_w idx, 3)) (hq : fk_lits[i]? = some q) (ho : q.1 = (fk_M k).1.cls) (hi : q.2.1 = idx) (h : Wq k d (pc + 3) ls (.ref (2000 + i) :: st) σ Q) : Wq k d pc ls st σ Q := by
  intro g p l e s m args below meth c H locs lsM X hP hS hl
  obtain ⟨x1, x2, x3, x4, x5, x6, x7, x8, x9, x10, x11⟩ := id X
  have hZ := x10.2 i q hq
  rw [ho, hi] at hZ
  exact fk_ldcwS x1 x2 x6 hZ hd (h g p l e s m args below meth c H locs lsM X hP hS hl)
theorem q_ldcS {i idx : Nat} {q : fkL} (hd : decode (fk_M k).2.1 pc = .ok (.ldc idx, 2)) (hq : fk_lits[i]? = some q) (ho : q.1 = (fk_M k).1.cls) (hi : q.2.1 = idx) (h : Wq k d (pc + 2) ls (.ref (2000 + i) :: st) σ Q) : Wq k d pc ls st σ Q := by
  intro g p l e s m args below meth c H locs lsM X hP hS hl
  obtain ⟨x1, x2, x3, x4, x5, x6, x7, x8, x9, x10, x11⟩ := id X
  have hZ := x10.2 i q hq
  rw [ho, hi] at hZ
  exact va_ldcS x1 x2 x6 hZ hd (h g p l e s m args below meth c H locs lsM X hP hS hl)
theorem q_sval {i idx : Nat} (hd : decode (fk_M k).2.1 pc = .ok (.getfield idx, 3)) (hi : i < fk_nL) (hw : Cond.fieldLink (fk_M k).1.cls idx "java/lang/String" "value" "[B" ∈ lw_tbl) (h : Wq k d (pc + 3) ls (.ref (3000 + i) :: st) σ Q) : Wq k d pc ls (.ref (2000 + i) :: st) σ Q := by
  intro g p l e s m args below meth c H locs lsM X hP hS hl
  obtain ⟨x1, x2, x3, x4, x5, x6, x7, x8, x9, x10, x11⟩ := id X
  exact vk_getf x1 x2 (x9.2.2.2.2 i hi).2.2.1 hS x6 (x7 _ (fk_inW hw rfl)) (fun x h => h) hd (h g p l e s m args below meth c H locs lsM X hP hS hl)
theorem q_scod {i idx : Nat} (hd : decode (fk_M k).2.1 pc = .ok (.getfield idx, 3)) (hi : i < fk_nL) (hw : Cond.fieldLink (fk_M k).1.cls idx "java/lang/String" "coder" "B" ∈ lw_tbl) (h : Wq k d (pc + 3) ls (.int 0 :: st) σ Q) : Wq k d pc ls (.ref (2000 + i) :: st) σ Q := by
  intro g p l e s m args below meth c H locs lsM X hP hS hl
  obtain ⟨x1, x2, x3, x4, x5, x6, x7, x8, x9, x10, x11⟩ := id X
  exact vk_getf x1 x2 (x9.2.2.2.2 i hi).2.1 hS x6 (x7 _ (fk_inW hw rfl)) (fun x h => h) hd (h g p l e s m args below meth c H locs lsM X hP hS hl)
theorem q_slen {i : Nat} (hd : decode (fk_M k).2.1 pc = .ok (.arraylength, 1)) (hi : i < fk_nL) (h : Wq k d (pc + 1) ls (.int (Int32.ofNat (fk_ln i)) :: st) σ Q) : Wq k d pc ls (.ref (3000 + i) :: st) σ Q := by
  intro g p l e s m args below meth c H locs lsM X hP hS hl
  obtain ⟨x1, x2, x3, x4, x5, x6, x7, x8, x9, x10, x11⟩ := id X
  exact va_tlen x1 x2 (x9.2.2.2.2 i hi).2.2.2 hS rfl hd (h g p l e s m args below meth c H locs lsM X hP hS hl)
theorem q_sbld {i : Nat} {x : Int32} (hd : decode (fk_M k).2.1 pc = .ok (.baload, 1)) (hi : i < fk_nL) (hx : vp_in x (fk_ln i)) (h : Wq k d (pc + 1) ls (.int ((fk_bt i).getD x.toNatClampNeg 0) :: st) σ Q) : Wq k d pc ls (.int x :: .ref (3000 + i) :: st) σ Q := by
  intro g p l e s m args below meth c H locs lsM X hP hS hl
  obtain ⟨x1, x2, x3, x4, x5, x6, x7, x8, x9, x10, x11⟩ := id X
  exact va_tb x1 x2 (x9.2.2.2.2 i hi).2.2.2 hS hx rfl hd (h g p l e s m args below meth c H locs lsM X hP hS hl)
theorem q_getC {idx : Nat} (hd : decode (fk_M k).2.1 pc = .ok (.getstatic idx, 3)) (hw : Cond.fieldLink (fk_M k).1.cls idx "java/lang/String" "COMPACT_STRINGS" "Z" ∈ lw_tbl) (h : Wq k d (pc + 3) ls (.int 1 :: st) σ Q) : Wq k d pc ls st σ Q := by
  intro g p l e s m args below meth c H locs lsM X hP hS hl
  obtain ⟨x1, x2, x3, x4, x5, x6, x7, x8, x9, x10, x11⟩ := id X
  exact va_gets x1 x2 x9.2.2.1 hS x6 (x7 _ (fk_inW hw rfl)) (fun x h => h) hd (h g p l e s m args below meth c H locs lsM X hP hS hl)
theorem q_getF {idx : Nat} (hd : decode (fk_M k).2.1 pc = .ok (.getstatic idx, 3)) (hw : Cond.fieldLink (fk_M k).1.cls idx "jdk/internal/util/Preconditions" "SIOOBE_FORMATTER" "Ljava/util/function/BiFunction;" ∈ lw_tbl) (h : Wq k d (pc + 3) ls (.null :: st) σ Q) : Wq k d pc ls st σ Q := by
  intro g p l e s m args below meth c H locs lsM X hP hS hl
  obtain ⟨x1, x2, x3, x4, x5, x6, x7, x8, x9, x10, x11⟩ := id X
  exact va_gets x1 x2 x9.2.2.2.1 hS x6 (x7 _ (fk_inW hw rfl)) (fun x h => h) hd (h g p l e s m args below meth c H locs lsM X hP hS hl)
/-! returns -/
theorem q_iret {v : Int32} (hd : decode (fk_M k).2.1 pc = .ok (.ireturn, 1)) (hr : (fk_M k).2.2.2 = some .int) (h : Q (some (.int v)) σ) : Wq k d pc ls [.int v] σ Q := by
  intro g p l e s m args below meth c H locs lsM X hP hS hl
  obtain ⟨x1, x2, x3, x4, x5, x6, x7, x8, x9, x10, x11⟩ := id X
  exact W.iret x1 x2 (x4.trans hr) (fun t ht _ => ⟨⟨some (.int v), σ, rfl, h, by rw [ht]; exact hP⟩, hS.F ht⟩) hS.2.2 hd x5
theorem q_zret {v : Int32} {ty : FieldType} (hd : decode (fk_M k).2.1 pc = .ok (.ireturn, 1)) (hr : (fk_M k).2.2.2 = some ty) (hn : narrow ty (.int v) = .int v) (h : Q (some (.int v)) σ) : Wq k d pc ls [.int v] σ Q := by
  intro g p l e s m args below meth c H locs lsM X hP hS hl
  obtain ⟨x1, x2, x3, x4, x5, x6, x7, x8, x9, x10, x11⟩ := id X
  exact W.zret x1 x2 (x4.trans hr) hn (fun t ht _ => ⟨⟨some (.int v), σ, rfl, h, by rw [ht]; exact hP⟩, hS.F ht⟩) hS.2.2 hd x5
theorem q_lret {v : Int64} (hd : decode (fk_M k).2.1 pc = .ok (.lreturn, 1)) (hr : (fk_M k).2.2.2 = some .long) (h : Q (some (.long v)) σ) : Wq k d pc ls [.long v] σ Q := by
  intro g p l e s m args below meth c H locs lsM X hP hS hl
  obtain ⟨x1, x2, x3, x4, x5, x6, x7, x8, x9, x10, x11⟩ := id X
  exact W.lret x1 x2 (x4.trans hr) (fun t ht _ => ⟨⟨some (.long v), σ, rfl, h, by rw [ht]; exact hP⟩, hS.F ht⟩) hS.2.2 hd x5
theorem q_vret (hd : decode (fk_M k).2.1 pc = .ok (.return_, 1)) (hr : (fk_M k).2.2.2 = none) (h : Q none σ) : Wq k d pc ls [] σ Q := by
  intro g p l e s m args below meth c H locs lsM X hP hS hl
  obtain ⟨x1, x2, x3, x4, x5, x6, x7, x8, x9, x10, x11⟩ := id X
  exact W.vret x1 x2 (x4.trans hr) (fun t ht _ => ⟨⟨none, σ, rfl, h, by rw [ht]; exact hP⟩, hS.F ht⟩) hS.2.2 hd x5
end QH
/-! calls -/
theorem fk_In_blind {g : fkG} {σ : fkS} {as : List Value} : FrameBlind (va_Pc as (fk_In g σ)) := by
  rintro a U gg mk ⟨q1, q2, q3, q4, q5⟩
  exact ⟨q1, q2, va_K.moved (u := U) (U := U.calling gg mk a) (Vm.Alike.refl U.vm) q3, fk_cst.moved (u := U) (U := U.calling gg mk a) (Vm.Alike.refl U.vm) q4, fk_N2.same (u := U) (U := U.calling gg mk a) rfl q5⟩
theorem fk_In_here {g : fkG} {σ : fkS} {s : State} {H : Heap} {locs : List Loc} (hP : va_P g.1 fk_cls (fk_ws σ g) H) (hS : va_S (fk_A g) s.heap H locs) (hK : va_K g.1 fk_cls (fk_tys g) s) (hC : fk_cst g (fk_A g) s s.heap) (hN : fk_N2 g s) : ∀ U : State, U.heap = H → s.WarmedH U.vm → fk_In g σ U := by
  intro U hU hW
  refine ⟨by rw [hU]; exact hP, va_K.moved hW.alike hK, ?_, fk_N2.warm hW hN⟩
  rw [hU]
  exact fk_cst.moved hW.alike (hC.kept hS.2.1)
theorem fk_cont {p : Program} {l : Launch} {e : Env} {R : Room} {s : State} {m : MethodId} {args : Array Value} {below : List Frame} {meth : Method} {c : Code} {H : Heap} {locs : List Loc} {QQ : State → Prop} {pc : Nat} {lsM : Array Slot} {st0 rest : List Value} {a : Array Value} {g : fkG} {Q' : Option Value → fkS → Prop}
    (hr : va_Run p l e R s m args below meth c H locs 0 0 0 0 (F0 m pc lsM st0) rest (fk_Qc g Q' a) (fk_A g)) (hS : va_S (fk_A g) s.heap H locs)
    (kk : ∀ (r : Option Value) (σ' : fkS), Q' r σ' → ∀ (H1 : Heap) (locs1 : List Loc), va_P g.1 fk_cls (fk_ws σ' g) H1 → va_S (fk_A g) s.heap H1 locs1 → W p l e R s m args below meth c H1 locs1 0 0 QQ (F0 m (pc + 3) lsM ((r.map (fk_tr g)).toList ++ rest))) :
    W p l e R s m args below meth c H locs 0 0 QQ (F0 m pc lsM st0) := by
  intro T hT X
  obtain ⟨v, st₀, t, T', L, h0, X', hL, e1, e2, ⟨⟨r, σ', hv, hq, hp⟩, hz, hk⟩, stp⟩ := hr T hT X
  have hv' : v = r.map (fk_tr g) := Outcome.returned.inj hv
  subst hv'
  rw [h0] at hz hk
  obtain ⟨t2, a1, b1⟩ := kk r σ' hq T'.heap (locs ++ L) (by rw [e1]; exact hp)
    ⟨Nat.le_trans hS.1 (by rw [e1]; exact hz), fun q h1 h2 => by rw [e1, hk q (Nat.lt_of_lt_of_le h1 hS.1) h2]; exact hS.2.1 q h1 h2, fun q hq => by
      rcases List.mem_append.mp hq with h | h
      · exact hS.2.2 q h
      · exact hL q h⟩ T' rfl X'
  exact ⟨t2, stp t2 a1, b1⟩
theorem fk_room {d j : Nat} (hm : (fk_M j).2.2.1 ≤ 21) : (fk_rm d).frames + 1 ≤ (fk_rm (d + 1)).frames ∧ 8 + ((fk_M j).2.2.1 + 11) + (fk_rm d).locals ≤ (fk_rm (d + 1)).locals := by
  constructor
  · exact Nat.le_refl _
  · show 8 + ((fk_M j).2.2.1 + 11) + 40 * d ≤ 40 * (d + 1)
    omega
theorem fk_stk (g : fkG) (as st : List Value) : (as.reverse ++ st).map (fk_tr g) = (as.map (fk_tr g)).reverse ++ st.map (fk_tr g) := by simp
theorem fk_catsum (g : fkG) (st : List Value) : ((st.map (fk_tr g)).map fun v => v.category).sum = (st.map fun v => v.category).sum := by
  rw [List.map_map]
  congr 1
  apply List.map_congr_left
  intro v _
  exact fk_tr_cat g v
section QC
variable {k d pc : Nat} {ls : List (Option Value)} {st : List Value} {σ : fkS} {Q : Option Value → fkS → Prop}
theorem q_cv {j idx r ci n : Nat} {as : List Value} {q : vw_C} {Q' : Option Value → fkS → Prop} (hd : decode (fk_M k).2.1 pc = .ok (.invokevirtual idx, 3)) (hj : fk_mok j) (hl0 : Cond.methodLink (fk_M k).1.cls idx (fk_M j).1 ∈ lw_tbl) (hi : Cond.instanceMethod (fk_M j).1 ∈ lw_tbl) (hse : Cond.selects (fk_M j).1.cls (fk_M j).1 (fk_M j).1 ∈ lw_tbl)
    (hp : (parseMethodDescriptor (fk_M j).1.desc).map (fun d => d.parameters.length) = some as.length) (hm : (fk_M j).2.2.1 ≤ 21) (hc : fk_cls[ci]? = some q) (hq : q.1 = (fk_M j).1.cls) (hsh : fk_sh[r]? = some (ci + 4, n)) (hst : (st.map fun v => v.category).sum ≤ 8)
    (hcl : Cl d j (.ref r :: as) σ Q') (hk : ∀ x σ', Q' x σ' → Wq k (d + 1) (pc + 3) ls (x.toList ++ st) σ' Q) : Wq k (d + 1) pc ls (as.reverse ++ .ref r :: st) σ Q := by
  intro g p l e s m args below meth c H locs lsM X hP hS hl
  obtain ⟨x1, x2, x3, x4, x5, x6, x7, x8, x9, x10, x11⟩ := id X
  have hrec := va_recv (q := q) x8 hP hc (fk_ws_get hsh)
  rw [hq] at hrec
  have cw : CallW (fk_rm (d + 1)) s args (fk_M k).1.cls (fk_M j).1.cls idx (fk_M j).1 (fk_M j).2.1 (fk_M j).2.2.1 (fk_M j).2.2.2 (fk_wm j) (fk_rm d) 0 0 as.length :=
    ⟨callB_of as.length x7 (fk_goodIn (fk_wm_in hj.1)) rfl rfl rfl (x7 _ (fk_inW hj.2.1 rfl)) (x7 _ (fk_inW hl0 rfl)) ⟨hj.2.2.1.1, hj.2.2.1.2, hp⟩ (fk_room hm), x7 _ (fk_inW hi rfl), x7 _ (fk_inW hse rfl)⟩
  have hrun := va_runV (As := as.map (fk_tr g)) (rest := st.map (fk_tr g)) (g := F0 m pc lsM ((as.reverse ++ .ref r :: st).map (fk_tr g))) (cells := 0) (slots := 0) (locs := locs) (meth := meth) (below := below) (e := e) ⟨x1, x2, x3, x6, x7⟩ (hcl g l x11) cw ⟨fk_In_blind, hrec, fun U hU hW => ⟨rfl, fk_In_here hP hS x8 x9 x10 U hU hW⟩⟩ rfl (by simp) hl.1 (fk_stk g as (.ref r :: st)) (lv_room (by rw [fk_catsum]; exact hst)) hd ⟨Nat.le_refl _, Nat.le_refl _⟩
  refine fk_cont hrun hS (fun x σ' hx H1 locs1 hP1 hS1 => ?_)
  have h1 := hk x σ' hx g p l e s m args below meth c H1 locs1 lsM X hP1 hS1 hl
  rw [List.map_append] at h1
  cases x <;> exact h1
theorem q_cvS {j idx r : Nat} {as : List Value} {Q' : Option Value → fkS → Prop} (hd : decode (fk_M k).2.1 pc = .ok (.invokevirtual idx, 3)) (hj : fk_mok j) (hl0 : Cond.methodLink (fk_M k).1.cls idx (fk_M j).1 ∈ lw_tbl) (hi : Cond.instanceMethod (fk_M j).1 ∈ lw_tbl) (hse : Cond.selects (fk_M j).1.cls (fk_M j).1 (fk_M j).1 ∈ lw_tbl)
    (hp : (parseMethodDescriptor (fk_M j).1.desc).map (fun d => d.parameters.length) = some as.length) (hm : (fk_M j).2.2.1 ≤ 21) (hq : (fk_M j).1.cls = "java/lang/String") (hr : r < fk_nL) (hst : (st.map fun v => v.category).sum ≤ 8)
    (hcl : Cl d j (.ref (2000 + r) :: as) σ Q') (hk : ∀ x σ', Q' x σ' → Wq k (d + 1) (pc + 3) ls (x.toList ++ st) σ' Q) : Wq k (d + 1) pc ls (as.reverse ++ .ref (2000 + r) :: st) σ Q := by
  intro g p l e s m args below meth c H locs lsM X hP hS hl
  obtain ⟨x1, x2, x3, x4, x5, x6, x7, x8, x9, x10, x11⟩ := id X
  have hrec := va_Orecv (x9.2.2.2.2 r hr).1 hS
  rw [← hq] at hrec
  have cw : CallW (fk_rm (d + 1)) s args (fk_M k).1.cls (fk_M j).1.cls idx (fk_M j).1 (fk_M j).2.1 (fk_M j).2.2.1 (fk_M j).2.2.2 (fk_wm j) (fk_rm d) 0 0 as.length :=
    ⟨callB_of as.length x7 (fk_goodIn (fk_wm_in hj.1)) rfl rfl rfl (x7 _ (fk_inW hj.2.1 rfl)) (x7 _ (fk_inW hl0 rfl)) ⟨hj.2.2.1.1, hj.2.2.1.2, hp⟩ (fk_room hm), x7 _ (fk_inW hi rfl), x7 _ (fk_inW hse rfl)⟩
  have hrun := va_runV (As := as.map (fk_tr g)) (rest := st.map (fk_tr g)) (g := F0 m pc lsM ((as.reverse ++ .ref (2000 + r) :: st).map (fk_tr g))) (cells := 0) (slots := 0) (locs := locs) (meth := meth) (below := below) (e := e) ⟨x1, x2, x3, x6, x7⟩ (hcl g l x11) cw ⟨fk_In_blind, hrec, fun U hU hW => ⟨rfl, fk_In_here hP hS x8 x9 x10 U hU hW⟩⟩ rfl (by simp) hl.1 (fk_stk g as (.ref (2000 + r) :: st)) (lv_room (by rw [fk_catsum]; exact hst)) hd ⟨Nat.le_refl _, Nat.le_refl _⟩
  refine fk_cont hrun hS (fun x σ' hx H1 locs1 hP1 hS1 => ?_)
  have h1 := hk x σ' hx g p l e s m args below meth c H1 locs1 lsM X hP1 hS1 hl
  rw [List.map_append] at h1
  cases x <;> exact h1
theorem q_cvN {j idx r ci n : Nat} {as : List Value} {q : vw_C} {host : String} {Q' : Option Value → fkS → Prop} (hd : decode (fk_M k).2.1 pc = .ok (.invokevirtual idx, 3)) (hj : fk_mok j) (hl0 : Cond.methodLinkNest (fk_M k).1.cls idx (fk_M j).1 host ∈ lw_tbl) (hi : Cond.instanceMethod (fk_M j).1 ∈ lw_tbl) (hse : Cond.selects (fk_M j).1.cls (fk_M j).1 (fk_M j).1 ∈ lw_tbl)
    (hp : (parseMethodDescriptor (fk_M j).1.desc).map (fun d => d.parameters.length) = some as.length) (hm : (fk_M j).2.2.1 ≤ 21) (hc : fk_cls[ci]? = some q) (hq : q.1 = (fk_M j).1.cls) (hsh : fk_sh[r]? = some (ci + 4, n)) (hst : (st.map fun v => v.category).sum ≤ 8)
    (hcl : Cl d j (.ref r :: as) σ Q') (hk : ∀ x σ', Q' x σ' → Wq k (d + 1) (pc + 3) ls (x.toList ++ st) σ' Q) : Wq k (d + 1) pc ls (as.reverse ++ .ref r :: st) σ Q := by
  intro g p l e s m args below meth c H locs lsM X hP hS hl
  obtain ⟨x1, x2, x3, x4, x5, x6, x7, x8, x9, x10, x11⟩ := id X
  have hrec := va_recv (q := q) x8 hP hc (fk_ws_get hsh)
  rw [hq] at hrec
  have cw : va_CN (fk_rm (d + 1)) s args (fk_M k).1.cls idx (fk_M j).1 host (fk_M j).2.1 (fk_M j).2.2.1 (fk_M j).2.2.2 (fk_wm j) (fk_rm d) 0 0 as.length :=
    va_cnB as.length x7 (fk_goodIn (fk_wm_in hj.1)) rfl rfl rfl (x10.1 _ hl0 rfl) (x7 _ (fk_inW hj.2.1 rfl)) ⟨hj.2.2.1.1, hj.2.2.1.2, hp⟩ (fk_room hm)
  have hrun := va_runVN (C := (fk_M j).1.cls) (As := as.map (fk_tr g)) (rest := st.map (fk_tr g)) (g := F0 m pc lsM ((as.reverse ++ .ref r :: st).map (fk_tr g))) (cells := 0) (slots := 0) (locs := locs) (meth := meth) (below := below) (e := e) ⟨x1, x2, x3, x6, x7⟩ (hcl g l x11) ⟨cw, x7 _ (fk_inW hi rfl), x7 _ (fk_inW hse rfl)⟩ ⟨fk_In_blind, hrec, fun U hU hW => ⟨rfl, fk_In_here hP hS x8 x9 x10 U hU hW⟩⟩ rfl (by simp) hl.1 (fk_stk g as (.ref r :: st)) (lv_room (by rw [fk_catsum]; exact hst)) hd ⟨Nat.le_refl _, Nat.le_refl _⟩
  refine fk_cont hrun hS (fun x σ' hx H1 locs1 hP1 hS1 => ?_)
  have h1 := hk x σ' hx g p l e s m args below meth c H1 locs1 lsM X hP1 hS1 hl
  rw [List.map_append] at h1
  cases x <;> exact h1
theorem q_cs {j idx : Nat} {as : List Value} {Q' : Option Value → fkS → Prop} (hd : decode (fk_M k).2.1 pc = .ok (.invokestatic idx, 3)) (hj : fk_mok j) (hl0 : Cond.methodLink (fk_M k).1.cls idx (fk_M j).1 ∈ lw_tbl) (hi : Cond.static (fk_M j).1 ∈ lw_tbl)
    (hp : (parseMethodDescriptor (fk_M j).1.desc).map (fun d => d.parameters.length) = some as.length) (hm : (fk_M j).2.2.1 ≤ 21) (hst : (st.map fun v => v.category).sum ≤ 8)
    (hcl : Cl d j as σ Q') (hk : ∀ x σ', Q' x σ' → Wq k (d + 1) (pc + 3) ls (x.toList ++ st) σ' Q) : Wq k (d + 1) pc ls (as.reverse ++ st) σ Q := by
  intro g p l e s m args below meth c H locs lsM X hP hS hl
  obtain ⟨x1, x2, x3, x4, x5, x6, x7, x8, x9, x10, x11⟩ := id X
  have cw : CallB (fk_rm (d + 1)) s args (fk_M k).1.cls idx (fk_M j).1 (fk_M j).2.1 (fk_M j).2.2.1 (fk_M j).2.2.2 (fk_wm j) (fk_rm d) 0 0 as.length :=
    callB_of as.length x7 (fk_goodIn (fk_wm_in hj.1)) rfl rfl rfl (x7 _ (fk_inW hj.2.1 rfl)) (x7 _ (fk_inW hl0 rfl)) ⟨hj.2.2.1.1, hj.2.2.1.2, hp⟩ (fk_room hm)
  have hrun := va_runS (As := as.map (fk_tr g)) (rest := st.map (fk_tr g)) (g := F0 m pc lsM ((as.reverse ++ st).map (fk_tr g))) (cells := 0) (slots := 0) (locs := locs) (meth := meth) (below := below) (e := e) ⟨x1, x2, x3, x6, x7⟩ (hcl g l x11) ⟨cw, x7 _ (fk_inW hi rfl)⟩ ⟨fk_In_blind, fun U hU hW => ⟨rfl, fk_In_here hP hS x8 x9 x10 U hU hW⟩⟩ rfl (by simp) hl.1 (fk_stk g as st) (lv_room (by rw [fk_catsum]; exact hst)) hd ⟨Nat.le_refl _, Nat.le_refl _⟩
  refine fk_cont hrun hS (fun x σ' hx H1 locs1 hP1 hS1 => ?_)
  have h1 := hk x σ' hx g p l e s m args below meth c H1 locs1 lsM X hP1 hS1 hl
  rw [List.map_append] at h1
  cases x <;> exact h1
theorem q_csN {j idx : Nat} {as : List Value} {host : String} {Q' : Option Value → fkS → Prop} (hd : decode (fk_M k).2.1 pc = .ok (.invokestatic idx, 3)) (hj : fk_mok j) (hl0 : Cond.methodLinkNest (fk_M k).1.cls idx (fk_M j).1 host ∈ lw_tbl) (hi : Cond.static (fk_M j).1 ∈ lw_tbl)
    (hp : (parseMethodDescriptor (fk_M j).1.desc).map (fun d => d.parameters.length) = some as.length) (hm : (fk_M j).2.2.1 ≤ 21) (hst : (st.map fun v => v.category).sum ≤ 8)
    (hcl : Cl d j as σ Q') (hk : ∀ x σ', Q' x σ' → Wq k (d + 1) (pc + 3) ls (x.toList ++ st) σ' Q) : Wq k (d + 1) pc ls (as.reverse ++ st) σ Q := by
  intro g p l e s m args below meth c H locs lsM X hP hS hl
  obtain ⟨x1, x2, x3, x4, x5, x6, x7, x8, x9, x10, x11⟩ := id X
  have cw : va_CN (fk_rm (d + 1)) s args (fk_M k).1.cls idx (fk_M j).1 host (fk_M j).2.1 (fk_M j).2.2.1 (fk_M j).2.2.2 (fk_wm j) (fk_rm d) 0 0 as.length :=
    va_cnB as.length x7 (fk_goodIn (fk_wm_in hj.1)) rfl rfl rfl (x10.1 _ hl0 rfl) (x7 _ (fk_inW hj.2.1 rfl)) ⟨hj.2.2.1.1, hj.2.2.1.2, hp⟩ (fk_room hm)
  have hrun := va_runSN (As := as.map (fk_tr g)) (rest := st.map (fk_tr g)) (g := F0 m pc lsM ((as.reverse ++ st).map (fk_tr g))) (cells := 0) (slots := 0) (locs := locs) (meth := meth) (below := below) (e := e) ⟨x1, x2, x3, x6, x7⟩ (hcl g l x11) ⟨cw, x7 _ (fk_inW hi rfl), trivial⟩ ⟨fk_In_blind, fun U hU hW => ⟨rfl, fk_In_here hP hS x8 x9 x10 U hU hW⟩⟩ rfl (by simp) hl.1 (fk_stk g as st) (lv_room (by rw [fk_catsum]; exact hst)) hd ⟨Nat.le_refl _, Nat.le_refl _⟩
  refine fk_cont hrun hS (fun x σ' hx H1 locs1 hP1 hS1 => ?_)
  have h1 := hk x σ' hx g p l e s m args below meth c H1 locs1 lsM X hP1 hS1 hl
  rw [List.map_append] at h1
  cases x <;> exact h1
end QC
/-! the beginning of a method -/
def fk_e0 : List Value → List (Option Value)
  | [] => []
  | v :: t => cond (Nat.beq (Value.category v) 2) (some v :: none :: fk_e0 t) (some v :: fk_e0 t)
/-- the locals with which a method begins -/
def fk_e (as : List Value) (n : Nat) : List (Option Value) := fk_e0 as ++ List.replicate (n - (fk_e0 as).length) none
theorem fk_args_mem {g : fkG} : ∀ (as : List Value) (n i : Nat) (w : Value), (i, w) ∈ fk_alF g n (fk_e0 as) → (i, w) ∈ lv_args n (as.map (fk_tr g))
  | [], n, i, w, h => by simp [fk_e0, fk_alF] at h
  | v :: t, n, i, w, h => by
    rw [List.map_cons, lv_args, List.mem_cons]
    unfold fk_e0 at h
    cases hc : Nat.beq (Value.category v) 2 with
    | true =>
      rw [hc, cond_true, fk_alF, fk_alF, List.mem_cons] at h
      have h2 : Value.category (fk_tr g v) = 2 := (fk_tr_cat g v).trans (Nat.eq_of_beq_eq_true hc)
      rw [if_pos h2]
      rcases h with h | h
      · exact Or.inl h
      · exact Or.inr (fk_args_mem t (n + 2) i w h)
    | false =>
      rw [hc, cond_false, fk_alF, List.mem_cons] at h
      have h2 : ¬ Value.category (fk_tr g v) = 2 := fun z => Nat.ne_of_beq_eq_false hc ((fk_tr_cat g v).symm.trans z)
      rw [if_neg h2]
      rcases h with h | h
      · exact Or.inl h
      · exact Or.inr (fk_args_mem t (n + 1) i w h)
theorem fk_alF_app {g : fkG} : ∀ (ls : List (Option Value)) (n j : Nat), fk_alF g n (ls ++ List.replicate j none) = fk_alF g n ls
  | [], n, j => by
    induction j generalizing n with
    | zero => rfl
    | succ j ih =>
      have := ih (n + 1)
      simpa [List.replicate_succ, fk_alF] using this
  | none :: t, n, j => by
    rw [List.cons_append, fk_alF, fk_alF]
    exact fk_alF_app t (n + 1) j
  | some v :: t, n, j => by
    rw [List.cons_append, fk_alF, fk_alF, fk_alF_app t (n + 1) j]
theorem fk_sl_len {g : fkG} : ∀ as : List Value, (lg_sl (as.map (fk_tr g))).length = (fk_e0 as).length
  | [] => rfl
  | v :: t => by
    have ih := fk_sl_len (g := g) t
    unfold lg_sl at ih ⊢
    rw [List.map_cons, List.flatMap_cons, List.length_append, ih, show fk_e0 (v :: t) = cond (Nat.beq (Value.category v) 2) (some v :: none :: fk_e0 t) (some v :: fk_e0 t) from rfl]
    cases hc : Nat.beq (Value.category v) 2 with
    | true =>
      have h2 : Value.category (fk_tr g v) = 2 := (fk_tr_cat g v).trans (Nat.eq_of_beq_eq_true hc)
      rw [if_pos h2, cond_true]
      simp only [List.length_cons, List.length_nil]
      omega
    | false =>
      have h2 : ¬ Value.category (fk_tr g v) = 2 := fun z => Nat.ne_of_beq_eq_false hc ((fk_tr_cat g v).symm.trans z)
      rw [if_neg h2, cond_false]
      simp only [List.length_cons, List.length_nil]
      omega
/-- a method's contract, out of the walk of its code -/
theorem Cl.of {d j : Nat} {as : List Value} {σ : fkS} {Q : Option Value → fkS → Prop} (hj : fk_mok j) (hn : (fk_e0 as).length ≤ (fk_M j).2.2.1) (h : Wq j d 0 (fk_e as (fk_M j).2.2.1) [] σ Q) : Cl d j as σ Q := by
  intro g l hg
  refine Met.ofW (cc := (fk_M j).2.1) (maxL := (fk_M j).2.2.1) (ret := (fk_M j).2.2.2) hj.2.2.2 rfl ?_
  intro p e s m args below meth c s₁ B hml hv
  obtain ⟨rfl, hP, hK, hC, hN⟩ := hv
  have hts0 := atoms_spec (ws := fk_wm j) B.pre
  have hts : ∀ w ∈ fk_W, w.before (as.map (fk_tr g)).toArray s = true := fun w hw => hts0 w (List.mem_cons_of_mem _ hw)
  have hl := lv_entry (as.map (fk_tr g)) (n := (fk_M j).2.2.1) (by rw [fk_sl_len]; exact hn)
  rw [lg_entry_eq]
  refine h g p l e s m _ below meth c s.heap [] _ ⟨B.exec, B.bytes, hml, B.returns, B.notSynchronized, findClass_of_methodNamed B.named, hts, hK, hC, hN, hg⟩ hP va_S.rf (hl.mono fun q hq => ?_)
  obtain ⟨i, w⟩ := q
  unfold fk_al fk_e at hq
  rw [fk_alF_app] at hq
  exact fk_args_mem as 0 i w hq
theorem Cl.mono {d j : Nat} {as : List Value} {σ : fkS} {Q Q' : Option Value → fkS → Prop} (h : Cl d j as σ Q) (hq : ∀ r σ', Q r σ' → Q' r σ') : Cl d j as σ Q' := by
  intro g l hg
  refine MetFree.mono (h g l hg) (fun _ _ z => z) (fun _ _ _ _ _ z => z) (fun a st o t _ hz => ?_)
  obtain ⟨⟨⟨r, σ', h1, h2, h3⟩, h4⟩, h5⟩ := hz
  exact ⟨⟨⟨r, σ', h1, hq r σ' h2, h3⟩, h4⟩, h5⟩
