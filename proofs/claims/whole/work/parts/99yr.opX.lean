/-! THE CLASS judges: what each entry does -/
section ZO
variable {t : Nat → UInt8} {n d en : Nat} {D : List FD} {σ0 σ : fkS} {A Z : List cdE} {Ts Ps : List Nat} {pe : List pE1} {w : Option Nat} {v1 : Int32} {Q : Option Value → fkS → Prop}
/-- the walk stands at place i -/
def ZW (d en : Nat) (v1 : Int32) (i : Nat) (σ : fkS) (Q : Option Value → fkS → Prop) : Prop := Wq 207 (d + 5) 119 [some (.ref 93), some (.int v1), some (.int (nI en)), some (.int (nI i))] [] σ Q
theorem KZ.ent {e : cdE} (h : KZ t n D σ0 (A ++ e :: Z) Ts pe Ps w σ) : (nI A.length).toNatClampNeg = A.length ∧ vp_in (nI A.length) 3000 ∧ σ.2.1 85 A.length = e.2.1 ∧ σ.1 86 A.length = e.2.2.1 ∧ σ.1 87 A.length = e.2.2.2 := by
  obtain ⟨c1, c2, c3, c4⟩ := h.1.1.2.2 A.length e mid_at
  exact ⟨nI_clamp (by have := h.lt; omega), vp_in_nI h.lt (by decide), c2, c3, c4⟩
theorem KZ.tl (h : KZ t n D σ0 (A ++ Z) Ts pe Ps w σ) : Ts.length ≤ 2000 := h.2.1.2.1
/-- an INT, a LIST is pushed -/
theorem z_num {k y : Nat} {e : cdE} (hk : k = 0 ∧ y = 1 ∨ k = 4 ∧ y = 2) (h : KZ t n D σ0 (A ++ e :: Z) Ts pe Ps w σ) (ek : e.1 = nI k) (he : A.length < en) (hen : en ≤ 3000) (hl : Ts.length < 2000) (go : ∀ σ', KZ t n D σ0 (A ++ e :: Z) (y :: Ts) pe Ps w σ' → ZW d en v1 (A.length + 1) σ' Q) : ZW d en v1 A.length σ Q := by
  refine z_c h ek (by omega) (by omega) he hen ?_ go
  rcases hk with ⟨rfl, rfl⟩ | ⟨rfl, rfl⟩
  · exact z_ck (d := d + 3) h.r0 (by decide) (fun _ => z_push rfl h hl (by decide)) (fun y => by omega) (fun y => by omega) (fun y => by omega) (fun y => by omega) (fun y => by omega) (fun y => by omega) (fun y => by omega) (fun y => by omega)
  · exact z_ck (d := d + 3) h.r0 (by decide) (fun y => by omega) (fun y => by omega) (fun y => by omega) (fun y => by omega) (fun _ => z_push rfl h hl (by decide)) (fun y => by omega) (fun y => by omega) (fun y => by omega) (fun y => by omega)
/-- an E must have this TYPE -/
theorem z_wnt {x y p : Nat} {e : cdE} (h : KZ t n D σ0 (A ++ e :: Z) (x :: Ts) pe Ps w σ) (ek : e.1 = 14) (ev : e.2.1 = lN y) (ea : e.2.2.1 = nI p) (hy : y ≤ 3) (hp : p ≤ 4000) (he : A.length < en) (hen : en ≤ 3000) (go : ∀ σ', KZ t n D σ0 (A ++ e :: Z) (y :: Ts) pe Ps (m2 w (exQ x y p)) σ' → ZW d en v1 (A.length + 1) σ' Q) : ZW d en v1 A.length σ Q := by
  obtain ⟨ck, vi, c2, c3, c4⟩ := h.ent
  refine z_c (k := 14) h ek (by omega) (by omega) he hen ?_ go
  refine z_ck (d := d + 3) h.r0 (by decide) (fun y => by omega) (fun y => by omega) (fun y => by omega) (fun y => by omega) (fun y => by omega) (fun y => by omega) (fun _ => ⟨vi, ?_⟩) (fun y => by omega) (fun y => by omega)
  rw [ck, c2, c3, ev, ea, lN_i]
  exact z_want rfl rfl h hy hp
/-- of two one: a LIST behind cons -/
theorem z_cons {x y : Nat} {e : cdE} (h : KZ t n D σ0 (A ++ e :: Z) (x :: y :: Ts) pe Ps w σ) (ek : e.1 = 5) (he : A.length < en) (hen : en ≤ 3000) (go : ∀ σ', KZ t n D σ0 (A ++ e :: Z) (2 :: Ts) pe Ps w σ' → ZW d en v1 (A.length + 1) σ' Q) : ZW d en v1 A.length σ Q := by
  have l1 : Ts.length + 2 ≤ 2000 := h.2.1.2.1
  refine z_c (k := 5) h ek (by omega) (by omega) he hen ?_ go
  refine z_ck (d := d + 3) h.r0 (by decide) (fun y => by omega) (fun y => by omega) (fun y => by omega) (fun y => by omega) (fun y => by omega) (fun _ => ?_) (fun y => by omega) (fun y => by omega) (fun y => by omega)
  exact yV (σE := σ) rfl (z_drop (L := [x, y]) (x := 2) rfl h) fun σ1 h1 _ => z_push rfl h1 (by omega) (by decide)
/-- the other ways -/
theorem z_cp {i : Int32} {k : Nat} {P : fkS → Prop} (h0 : σ.2.2 93 0 = 76) (hk : k < 1000)
    (c7 : k = 7 → P σ)
    (c8 : k = 8 ∨ k = 10 → Di d 211 [.ref 93] σ (fun _ => P))
    (c9 : k = 9 → Dv d 221 [.ref 93] σ P)
    (c11 : k = 11 → Dv d 208 [.ref 93, .int (1 : Int32)] σ (fun σ8 => Dv d 208 [.ref 93, .int (2 : Int32)] σ8 P))
    (c12 : k = 12 → vp_in i 3000 ∧ Dv d 209 [.ref 93, .long (σ.2.1 85 i.toNatClampNeg), .int ((σ.1 93 2) - (σ.1 87 i.toNatClampNeg))] σ P)
    (c13 : k = 13 → vp_in i 3000 ∧ Dv d 222 [.ref 93, .int ((σ.2.1 85 i.toNatClampNeg).toInt32)] σ P)
    (c16 : k = 16 → vp_in (if (0 : Int32) < ((σ.1 93 7) - (1 : Int32)) then ((σ.1 93 7) - (1 : Int32)) else (0 : Int32)) 40 ∧ vp_in i 3000 ∧ Dv d 210 [.ref 93, .int (σ.1 97 ((if (0 : Int32) < ((σ.1 93 7) - (1 : Int32)) then ((σ.1 93 7) - (1 : Int32)) else (0 : Int32)).toNatClampNeg)), .int (σ.1 86 i.toNatClampNeg)] (sI σ 93 7 (if (0 : Int32) < ((σ.1 93 7) - (1 : Int32)) then ((σ.1 93 7) - (1 : Int32)) else (0 : Int32))) P)
    (cX : k < 7 ∨ k = 14 ∨ k = 15 ∨ 16 < k → Dv d 216 [.ref 93, .int (2 : Int32)] σ (fun σ1 => Dv d 208 [.ref 93, .int (1 : Int32)] σ1 P)) : Dv (d + 1) 220 [.ref 93, .int i, .int (nI k)] σ P := by
  have two : ∀ (j j2 : Nat) (as as2 : List Value), Dv d j as σ (fun σ1 => Dv d j2 as2 σ1 P) → Dv d j as σ (fun σ1 => Dv d j2 as2 (sW σ1 σ) (fun σ2 => Qv (fun σ' => σ'.2.2 = σ.2.2 ∧ P σ') none (sW σ2 σ))) := by
    intro j j2 as as2 c
    refine c.mono fun x s hx => ?_
    obtain ⟨rfl, e, p⟩ := Qv_s hx
    refine ⟨e, ?_⟩
    simp only [sW_eq e]
    exact z_f e p
  have pop : Di d 211 [.ref 93] σ (fun _ => P) → Di d 211 [.ref 93] σ (fun _ σ3 => Qv (fun σ' => σ'.2.2 = σ.2.2 ∧ P σ') none (sW σ3 σ)) := by
    intro c
    refine c.mono fun x s hx => ?_
    obtain ⟨v, rfl, e, p⟩ := Qi_s hx
    refine ⟨e, ?_⟩
    show (sW s σ).2.2 = σ.2.2 ∧ P (sW s σ)
    rw [sW_eq e]
    exact ⟨e, p⟩
  refine S_Checker_checkParts h0 ?_
  rw [toI k hk]
  refine ⟨fun y => two _ _ _ _ (cX (by omega)), fun y => ⟨rfl, c7 (by omega)⟩, fun y => pop (c8 (by omega)), fun y => z_f rfl (c9 (by omega)), fun y => pop (c8 (by omega)), fun y => two _ _ _ _ (c11 (by omega)), fun y => ⟨by decide, (c12 (by omega)).1, by decide, (c12 (by omega)).1, z_f rfl (c12 (by omega)).2⟩, fun y => ⟨by decide, (c13 (by omega)).1, z_f rfl (c13 (by omega)).2⟩, fun y => two _ _ _ _ (cX (by omega)), fun y => two _ _ _ _ (cX (by omega)), fun y => ⟨(c16 (by omega)).1, by decide, (c16 (by omega)).2.1, z_f rfl (c16 (by omega)).2.2⟩, trivial⟩
/-- an entry of the other ways -/
theorem z_d {k : Nat} {e : cdE} {C' : List cdE} {Ts' Ps' : List Nat} {pe' : List pE1} {w' : Option Nat} (h : KZ t n D σ0 (A ++ e :: Z) Ts pe Ps w σ) (ek : e.1 = nI k) (hk : k < 1000) (h17 : k ≠ 17) (h6 : 6 ≤ k ∧ k ≠ 14 ∧ k ≠ 15) (he : A.length < en) (hen : en ≤ 3000) (c : Dv (d + 3) 220 [.ref 93, .int (nI A.length), .int (nI k)] σ (fun σ1 => KZ t n D σ0 C' Ts' pe' Ps' w' σ1)) (go : ∀ σ', KZ t n D σ0 C' Ts' pe' Ps' w' σ' → ZW d en v1 (A.length + 1) σ' Q) : ZW d en v1 A.length σ Q := by
  refine z_c h ek hk h17 he hen ?_ go
  exact z_ck (d := d + 3) h.r0 hk (fun y => by omega) (fun y => by omega) (fun y => by omega) (fun y => by omega) (fun y => by omega) (fun y => by omega) (fun y => by omega) (fun y => by omega) (fun _ _ _ => c)
/-- of two an INT: do, signs -/
theorem z_two {k x y : Nat} {e : cdE} (hk : k = 6 ∨ 16 < k ∧ k < 1000 ∧ k ≠ 17) (h : KZ t n D σ0 (A ++ e :: Z) (x :: y :: Ts) pe Ps w σ) (ek : e.1 = nI k) (he : A.length < en) (hen : en ≤ 3000) (go : ∀ σ', KZ t n D σ0 (A ++ e :: Z) (1 :: Ts) pe Ps w σ' → ZW d en v1 (A.length + 1) σ' Q) : ZW d en v1 A.length σ Q := by
  have l1 : Ts.length + 2 ≤ 2000 := h.2.1.2.1
  refine z_d h ek (by omega) (by omega) (by omega) he hen ?_ go
  refine z_cp (d := d + 2) h.r0 (by omega) (fun y => by omega) (fun y => by omega) (fun y => by omega) (fun y => by omega) (fun y => by omega) (fun y => by omega) (fun y => by omega) (fun _ => ?_)
  exact yV (σE := σ) rfl (z_drop (L := [x, y]) (x := 2) rfl h) fun σ1 h1 _ => z_push rfl h1 (by omega) (by decide)
theorem z_neg {e : cdE} (h : KZ t n D σ0 (A ++ e :: Z) Ts pe Ps w σ) (ek : e.1 = 7) (he : A.length < en) (hen : en ≤ 3000) (go : ∀ σ', KZ t n D σ0 (A ++ e :: Z) Ts pe Ps w σ' → ZW d en v1 (A.length + 1) σ' Q) : ZW d en v1 A.length σ Q := by
  refine z_d (k := 7) h ek (by omega) (by omega) (by omega) he hen ?_ go
  exact z_cp (d := d + 2) h.r0 (by omega) (fun _ => h) (fun y => by omega) (fun y => by omega) (fun y => by omega) (fun y => by omega) (fun y => by omega) (fun y => by omega) (fun y => by omega)
theorem z_if {k x : Nat} {e : cdE} (hk : k = 8 ∨ k = 10) (h : KZ t n D σ0 (A ++ e :: Z) (x :: Ts) pe Ps w σ) (ek : e.1 = nI k) (he : A.length < en) (hen : en ≤ 3000) (go : ∀ σ', KZ t n D σ0 (A ++ e :: Z) Ts pe Ps w σ' → ZW d en v1 (A.length + 1) σ' Q) : ZW d en v1 A.length σ Q := by
  refine z_d h ek (by omega) (by omega) (by omega) he hen ?_ go
  refine z_cp (d := d + 2) h.r0 (by omega) (fun y => by omega) (fun _ => ?_) (fun y => by omega) (fun y => by omega) (fun y => by omega) (fun y => by omega) (fun y => by omega) (fun y => by omega)
  exact yI (σE := σ) rfl (z_pop h) fun _ σ1 h1 _ => h1.2
/-- the end of a first part -/
theorem z_skip {x : Nat} {e : cdE} (h : KZ t n D σ0 (A ++ e :: Z) (x :: Ts) pe Ps w σ) (ek : e.1 = 9) (hp : Ps.length < 40) (he : A.length < en) (hen : en ≤ 3000) (go : ∀ σ', KZ t n D σ0 (A ++ e :: Z) Ts pe (x :: Ps) w σ' → ZW d en v1 (A.length + 1) σ' Q) : ZW d en v1 A.length σ Q := by
  have x3 : x ≤ 3 := h.2.1.2.2.2 x List.mem_cons_self
  refine z_d (k := 9) h ek (by omega) (by omega) (by omega) he hen ?_ go
  refine z_cp (d := d + 2) h.r0 (by omega) (fun y => by omega) (fun y => by omega) (fun _ => ?_) (fun y => by omega) (fun y => by omega) (fun y => by omega) (fun y => by omega) (fun y => by omega)
  refine S_Checker_endFirstPart (d := d + 1) (yI rfl (z_pop h) fun v σ1 ⟨hv, h1⟩ w1 => ?_)
  subst hv
  obtain ⟨k1, k2, k3, k4⟩ := h1.2.2.2.1
  have ck : (nI Ps.length).toNatClampNeg = Ps.length := nI_clamp (by omega)
  rw [w1, k1, ck, (nI_succ Ps.length).symm]
  refine ⟨fun y => absurd y (nI_ge (a := Ps.length) (b := 40) hp (by decide)), fun _ => ⟨vp_in_nI hp (by decide), (show σ1.2.2 = σ.2.2 from h.re h1), ?_⟩⟩
  refine h1.pp rfl ((Fr.rf.sI (by unfold fkKQ; simp)).sI rfl) ⟨sI_ss, hp, fun i u hu => ?_, fun u hu => ?_⟩
  · rcases rev_last hu with ⟨c, hu⟩ | ⟨c, hu⟩
    · exact (congrFun (sI_o (by decide)) i).trans ((sI_so (by omega)).trans (k3 i u hu))
    · subst hu
      rw [c]
      exact (congrFun (sI_o (by decide)) _).trans sI_ss
  · rcases List.mem_cons.mp hu with rfl | hu
    · exact x3
    · exact k4 u hu
theorem z_part {e : cdE} (h : KZ t n D σ0 (A ++ e :: Z) Ts pe Ps w σ) (ek : e.1 = 11) (hl : Ts.length + 1 < 2000) (he : A.length < en) (hen : en ≤ 3000) (go : ∀ σ', KZ t n D σ0 (A ++ e :: Z) (2 :: 1 :: Ts) pe Ps w σ' → ZW d en v1 (A.length + 1) σ' Q) : ZW d en v1 A.length σ Q := by
  refine z_d (k := 11) h ek (by omega) (by omega) (by omega) he hen ?_ go
  refine z_cp (d := d + 2) h.r0 (by omega) (fun y => by omega) (fun y => by omega) (fun y => by omega) (fun _ => ?_) (fun y => by omega) (fun y => by omega) (fun y => by omega) (fun y => by omega)
  exact yV (σE := σ) rfl (z_push rfl h (by omega) (by decide)) fun σ1 h1 _ => z_push rfl h1 hl (by decide)
theorem z_bnd {a z k ty : Nat} {e : cdE} (h : KZ t n D σ0 (A ++ e :: Z) Ts pe Ps w σ) (ek : e.1 = 12) (ev : e.2.1 = wv t a z) (ex : e.2.2.2 = nI k) (hk : k ≤ Ts.length) (hk1 : 1 ≤ k) (ho : nmOK t n a z) (hl : pe.length < 100) (he : A.length < en) (hen : en ≤ 3000) (go : ∀ σ', KZ t n D σ0 (A ++ e :: Z) Ts (((a, z), Ts.length - k, ty) :: pe) Ps w σ' → ZW d en v1 (A.length + 1) σ' Q) : ZW d en v1 A.length σ Q := by
  obtain ⟨ck, vi, c2, c3, c4⟩ := h.ent
  have tl : Ts.length ≤ 2000 := h.2.1.2.1
  refine z_d (k := 12) h ek (by omega) (by omega) (by omega) he hen ?_ go
  refine z_cp (d := d + 2) h.r0 (by omega) (fun y => by omega) (fun y => by omega) (fun y => by omega) (fun y => by omega) (fun _ => ⟨vi, ?_⟩) (fun y => by omega) (fun y => by omega) (fun y => by omega)
  rw [ck, c2, c4, ev, ex, h.2.1.1, nI_sub hk]
  exact z_bind rfl rfl h hl ho (by omega)
theorem ifmax {a k : Nat} (hk : k ≤ a) (ha : a < 2 ^ 31) : (if (0 : Int32) < (nI a - nI k) then (nI a - nI k) else (0 : Int32)) = nI (a - k) := by
  rw [nI_sub hk]
  rcases Nat.eq_zero_or_pos (a - k) with c | c
  · rw [c]; rfl
  · exact if_pos (nI_lt (a := 0) c (by omega))
theorem z_unb {x k : Nat} {L : List Nat} {M : List pE1} {e : cdE} (h : KZ t n D σ0 (A ++ e :: Z) (x :: (L ++ Ts)) (M ++ pe) Ps w σ) (ek : e.1 = 13) (ev : e.2.1 = lN k) (hL : L.length = k) (hM : M.length = k) (he : A.length < en) (hen : en ≤ 3000) (go : ∀ σ', KZ t n D σ0 (A ++ e :: Z) (x :: Ts) pe Ps w σ' → ZW d en v1 (A.length + 1) σ' Q) : ZW d en v1 A.length σ Q := by
  obtain ⟨ck, vi, c2, c3, c4⟩ := h.ent
  have x3 : x ≤ 3 := h.2.1.2.2.2 x List.mem_cons_self
  have tl : (L ++ Ts).length + 1 ≤ 2000 := h.2.1.2.1
  have bl : (M ++ pe).length ≤ 100 := h.2.2.1.2.1
  rw [List.length_append] at tl bl
  refine z_d (k := 13) h ek (by omega) (by omega) (by omega) he hen ?_ go
  refine z_cp (d := d + 2) h.r0 (by omega) (fun y => by omega) (fun y => by omega) (fun y => by omega) (fun y => by omega) (fun y => by omega) (fun _ => ⟨vi, ?_⟩) (fun y => by omega) (fun y => by omega)
  rw [ck, c2, ev, lN_i]
  refine S_Checker_unbind (d := d + 1) (yI rfl (z_pop h) fun v σ1 ⟨hv, h1⟩ w1 => ?_)
  subst hv
  rw [w1]
  refine yV (h.re h1) (z_drop (d := d) (L := L) (x := nI k) (by rw [hL]) h1) fun σ2 h2 w2 => ?_
  rw [w2]
  obtain ⟨k1, k2, k3, k4⟩ := h2.2.2.1
  rw [List.length_append] at k1
  rw [k1, ifmax (by omega) (by omega), show M.length + pe.length - k = pe.length by omega]
  have h3 : KZ t n D σ0 (A ++ e :: Z) Ts pe Ps w (sI σ2 93 5 (nI pe.length)) := h2.bb rfl (Fr.rf.sI rfl) ⟨sI_ss, by omega, fun i q hq => ⟨(k3 i q (rev_in hq)).1, (congrFun (sI_o (by decide)) i).trans (k3 i q (rev_in hq)).2⟩, fun q hq => k4 q (List.mem_append_right _ hq)⟩
  refine yV ((show (sI σ2 93 5 (nI pe.length)).2.2 = σ2.2.2 from rfl).trans (h.re h2)) (z_push rfl h3 (by omega) x3) fun σ4 h4 w4 => ?_
  show (sW σ4 σ).2.2 = σ.2.2 ∧ _
  rw [w4]
  exact ⟨h.re h4, h4⟩
theorem z_join {x y p : Nat} {e : cdE} (h : KZ t n D σ0 (A ++ e :: Z) (x :: Ts) pe (y :: Ps) w σ) (ek : e.1 = 16) (ea : e.2.2.1 = nI p) (hp : p ≤ 4000) (he : A.length < en) (hen : en ≤ 3000) (go : ∀ σ', KZ t n D σ0 (A ++ e :: Z) (y :: Ts) pe Ps (m2 w (exQ x y p)) σ' → ZW d en v1 (A.length + 1) σ' Q) : ZW d en v1 A.length σ Q := by
  obtain ⟨ck, vi, c2, c3, c4⟩ := h.ent
  obtain ⟨k1, k2, k3, k4⟩ := h.2.2.2.1
  have k2' : Ps.length + 1 ≤ 40 := k2
  have y3 : y ≤ 3 := k4 y List.mem_cons_self
  have e1 : (if (0 : Int32) < (nI (y :: Ps).length - 1) then (nI (y :: Ps).length - 1) else (0 : Int32)) = nI Ps.length := ifmax (a := (y :: Ps).length) (k := 1) (by rw [List.length_cons]; omega) (by rw [List.length_cons]; omega)
  have cp : (nI Ps.length).toNatClampNeg = Ps.length := nI_clamp (by omega)
  refine z_d (k := 16) h ek (by omega) (by omega) (by omega) he hen ?_ go
  refine z_cp (d := d + 2) h.r0 (by omega) (fun y => by omega) (fun y => by omega) (fun y => by omega) (fun y => by omega) (fun y => by omega) (fun y => by omega) (fun _ => ?_) (fun y => by omega)
  rw [k1, e1, cp, ck, c3, ea, k3 Ps.length y (rev_at y Ps)]
  refine ⟨vp_in_nI (by omega) (by decide), vi, ?_⟩
  have h1 : KZ t n D σ0 (A ++ e :: Z) (x :: Ts) pe Ps w (sI σ 93 7 (nI Ps.length)) := h.pp rfl (Fr.rf.sI rfl) ⟨sI_ss, by omega, fun i u hu => (congrFun (sI_o (by decide)) i).trans (k3 i u (rev_in (M := [y]) hu)), fun u hu => k4 u (List.mem_cons_of_mem _ hu)⟩
  exact z_want rfl rfl h1 y3 hp
end ZO
