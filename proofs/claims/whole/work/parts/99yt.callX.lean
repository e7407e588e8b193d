/-! THE CLASS judges: CALLS, acts -/
section ZC
variable {t : Nat → UInt8} {n d en : Nat} {D : List FD} {σ0 σ : fkS} {A Z : List cdE} {Ts Ps : List Nat} {pe : List pE1} {w : Option Nat} {v1 : Int32} {Q : Option Value → fkS → Prop}
/-- what is known of a FUNCTION that was found -/
theorem z_row {C : List cdE} {x : List Nat} {f : Nat} (h : KG t n D σ0 C σ) (hf : fnI t D x 0 = some f) : f < 20 ∧ (nI f).toNatClampNeg = f ∧ vp_in (nI f) 20 ∧ σ.1 78 f = nI (tkD D f) ∧ σ.1 79 f = nI (gvD D f) ∧ gvD D f ≤ 3 ∧ tkD D f ≤ 4 ∧ (1 ≤ tkD D f → σ.1 83 (4 * f) = nI (tyD D f 0) ∧ tyD D f 0 ≤ 3) := by
  obtain ⟨f1, r, f2, -⟩ := fnI_lt hf
  obtain ⟨-, hM, -, h20, hok, -⟩ := h
  obtain ⟨-, -, m3, m4, -, m6, m7⟩ := hM f r f2
  obtain ⟨-, o2, o3, o4, -⟩ := hok r (List.mem_of_getElem? f2)
  have e1 : tkD D f = r.2.1.length := by unfold tkD; rw [f2]
  have e3 : gvD D f = r.2.2.1 := by unfold gvD; rw [f2]
  refine ⟨by omega, nI_clamp (by omega), vp_in_nI (by omega) (by decide), by rw [e1]; exact m3, by rw [e3]; exact m4, by rw [e3]; exact o4.2, by rw [e1]; exact o2.2, fun c => ?_⟩
  have hq0 : r.2.1[0]? = some r.2.1[0] := List.getElem?_eq_getElem (by omega)
  have e2 : tyD D f 0 = r.2.1[0].2.2 := by unfold tyD; rw [f2]; simp only; rw [hq0]
  have := (m7 0 _ hq0).2.2
  rw [Nat.add_zero] at this
  rw [e2]
  exact ⟨this, (o3 _ (List.mem_of_getElem? hq0)).2.2⟩
/-- a CALL -/
theorem z_call {a z c : Nat} {L : List Nat} (hn : n ≤ 4000) (h : KZ t n D σ0 (A ++ (2, wv t a z, nI a, nI c) :: Z) (L ++ Ts) pe Ps w σ) (hL : L.length = c) (ho : nmOK t n a z) (hl : Ts.length < 2000) (he : A.length < en) (hen : en ≤ 3000)
    (go : ∀ σ', KZ t n D σ0 (A ++ (2, slO (wv t a z) (fnI t D (nmT t a z) 0), nI a, nI c) :: Z) (gvO D (fnI t D (nmT t a z) 0) :: Ts) pe Ps (m2 w (tkO D a c (fnI t D (nmT t a z) 0))) σ' → ZW d en v1 (A.length + 1) σ' Q) : ZW d en v1 A.length σ Q := by
  obtain ⟨ck, vi, c2, c3, c4⟩ := h.ent
  have n4 := (nm_in ho)
  have c2000 : c ≤ 2000 := by have := h.2.1.2.1; rw [List.length_append] at this; omega
  refine z_c (k := 2) h rfl (by omega) (by omega) he hen ?_ go
  refine z_ck (d := d + 3) h.r0 (by decide) (fun y => by omega) (fun y => by omega) (fun _ => ?_) (fun y => by omega) (fun y => by omega) (fun y => by omega) (fun y => by omega) (fun y => by omega) (fun y => by omega)
  refine S_Checker_callOf (d := d + 2) h.r0 ⟨by decide, by decide, vi, ?_⟩
  rw [ck, c2]
  refine yI rfl (z_find rfl h.1 ho) fun v σ1 ⟨e1, e2⟩ w1 => ⟨by decide, vi, ?_⟩
  subst e1
  rw [w1, c4]
  refine yV rfl (z_drop (d := d + 1) (L := L) (by rw [hL]) h) fun σ3 h3 w3 => ?_
  rw [w3]
  obtain ⟨-, -, g2, g3, g4⟩ := h3.ent
  cases hf : fnI t D (nmT t a z) 0 with
  | none =>
    rw [hf, onI_n] at e2
    subst e2
    refine ⟨fun y => absurd y (by decide), fun _ => ⟨by decide, vi, ?_⟩⟩
    rw [g3]
    refine yV (h.re h3) (z_note rfl h3 (by omega)) fun σ5 h5 w5 => ?_
    rw [w5]
    refine yV (h.re h5) (z_push (v := 0) rfl h5 hl (by decide)) fun σ6 h6 w6 => ?_
    show (sW σ6 σ1).2.2 = σ1.2.2 ∧ _
    rw [w6]
    exact ⟨h.re h6, h6⟩
  | some f =>
    rw [hf, onI_s] at e2
    subst e2
    obtain ⟨f1, cf, vf, r1, r2, r3, r4, -⟩ := z_row h3.1 hf
    have fin : ∀ w2 σ4, KZ t n D σ0 (A ++ (2, wv t a z, nI a, nI c) :: Z) Ts pe Ps w2 σ4 → σ4.2.2 = σ1.2.2 → Wq 215 (d + 2 + 1) 87 [some (.ref 93), some (.int (nI A.length)), some (.int (nI f))] [] σ4 (fun y s => Qv (fun σ' => σ'.2.2 = σ1.2.2 ∧ KZ t n D σ0 (A ++ (2, lN f, nI a, nI c) :: Z) (gvD D f :: Ts) pe Ps w2 σ') y s) := by
      intro w2 σ4 h4 hr
      obtain ⟨-, -, r5, -⟩ := z_row h4.1 hf
      refine S_Checker_callOf_87 h4.r0 ⟨by decide, vi, by decide, vf, ?_⟩
      obtain ⟨-, -, -, -, q2, -⟩ := z_row h4.1 hf
      rw [cf, ck, nI_l (by omega), q2]
      have h5 := z_val (v := lN f) h4
      refine yV (show (sL σ4 85 A.length (lN f)).2.2 = σ4.2.2 from rfl) (z_push rfl h5 hl r3) fun σ6 h6 w6 => ?_
      show (sW σ6 σ4).2.2 = σ1.2.2 ∧ _
      rw [w6]
      exact ⟨(h4.re h6).trans hr, h6⟩
    refine ⟨fun _ => ⟨by decide, vf, by decide, vi, ?_⟩, fun y => absurd (nI_pos' (by omega)) y⟩
    rw [cf, r1, g3, g4, nI_eq (by omega) (by omega)]
    show _ ∧ _
    refine ⟨fun y => ?_, fun y => ⟨by decide, vi, ?_⟩⟩
    · rw [show tkO D a c (some f) = none from if_pos y, m2_n]
      exact fin w σ3 h3 (h.re h3)
    · rw [show tkO D a c (some f) = some a from if_neg y]
      refine yV (h.re h3) (z_note rfl h3 (by omega)) fun σ4 h4 w4 => ?_
      rw [w4]
      exact fin _ σ4 h4 (h.re h4)
/-- does it take and give INTS alone -/
theorem z_tg {C : List cdE} {x : List Nat} {f : Nat} (h : KG t n D σ0 C σ) (hf : fnI t D x 0 = some f) (h1 : tkD D f = 1) : Di d 218 [.ref 75, .int (nI f)] σ (fun v s => s = σ ∧ v = if acD D f then 1 else 0) := by
  obtain ⟨f1, cf, vf, r1, r2, r3, r4, r5⟩ := z_row h hf
  obtain ⟨r6, r7⟩ := r5 (by omega)
  have fl : f < D.length := (fnI_lt hf).1
  have ht : nI (tkD D f) = 1 := congrArg nI h1
  have c4 : (((4 : Int32) * nI f) + (0 : Int32)) = nI (4 * f) := by
    rw [show (4 : Int32) = nI 4 from rfl, nI_mul, show (0 : Int32) = nI 0 from rfl, nI_add]
    rfl
  refine S_Program_takesAndGivesInt_v1 ⟨fun y => absurd y (nI_pos (by omega)), fun _ => ?_⟩
  rw [h.2.2.1, cf, r2]
  refine ⟨fun y => absurd y (fun q => by have := nI_ge (a := f) (b := D.length) fl (by have := h.2.2.2.1; omega); exact this q), fun _ => ⟨vf, fun y => ?_, fun y => ⟨rfl, rfl, ?_⟩⟩⟩
  · have g1 : gvD D f = 1 := (nI_eq (b := 1) (by omega) (by decide)).mp y
    refine S_Program_takesAndGivesInt_v1_26 ⟨vf, ?_⟩
    rw [cf, r1, ht, c4, show (nI (4 * f)).toNatClampNeg = 4 * f from nI_clamp (by omega), r6]
    refine ⟨fun y => absurd y (by decide), fun _ => ⟨vp_in_nI (by omega) (by decide), fun y2 => ?_, fun y2 => ⟨rfl, rfl, ?_⟩⟩⟩
    · refine S_Program_takesAndGivesInt_v1_26 ⟨vf, ?_⟩
      rw [cf, r1, ht]
      refine ⟨fun _ => ⟨rfl, rfl, ?_⟩, fun y => absurd (by decide) y⟩
      rw [if_pos ⟨h1, (nI_eq (b := 1) (by omega) (by decide)).mp y2, g1⟩]
    · rw [if_neg fun q => y2 (by rw [q.2.1]; rfl)]
  · rw [if_neg fun q => y (by rw [q.2.2]; rfl)]
/-- an act -/
theorem z_act {a z c : Nat} (hn : n ≤ 4000) (hc : c ≤ 4000) (h : KZ t n D σ0 (A ++ (3, wv t a z, nI a, nI c) :: Z) Ts pe Ps w σ) (ho : nmOK t n a z) (hl : Ts.length < 2000) (he : A.length < en) (hen : en ≤ 3000)
    (go : ∀ σ', KZ t n D σ0 (A ++ (3, slO (wv t a z) (fnI t D (nmT t a z) 0), nI a, nI c) :: Z) (3 :: Ts) pe Ps (m2 w (acO D a c (fnI t D (nmT t a z) 0))) σ' → ZW d en v1 (A.length + 1) σ' Q) : ZW d en v1 A.length σ Q := by
  obtain ⟨ck, vi, c2, c3, c4⟩ := h.ent
  have n4 := (nm_in ho)
  refine z_c (k := 3) h rfl (by omega) (by omega) he hen ?_ go
  refine z_ck (d := d + 3) h.r0 (by decide) (fun y => by omega) (fun y => by omega) (fun y => by omega) (fun _ => ?_) (fun y => by omega) (fun y => by omega) (fun y => by omega) (fun y => by omega) (fun y => by omega)
  refine S_Checker_actOf (d := d + 2) h.r0 ⟨by decide, by decide, vi, ?_⟩
  rw [ck, c2]
  refine yI rfl (z_find rfl h.1 ho) fun v σ1 ⟨e1, e2⟩ w1 => ?_
  subst e1
  rw [w1]
  refine yV rfl (z_push (v := 3) rfl h hl (by decide)) fun σ3 h3 w3 => ?_
  rw [w3]
  obtain ⟨-, -, g2, g3, g4⟩ := h3.ent
  cases hf : fnI t D (nmT t a z) 0 with
  | none =>
    rw [hf, onI_n] at e2
    subst e2
    refine ⟨fun y => absurd y (by decide), fun _ => ⟨by decide, vi, ?_⟩⟩
    rw [g3]
    refine yV (h.re h3) (z_note rfl h3 (by omega)) fun σ6 h6 w6 => ?_
    show (sW σ6 σ1).2.2 = σ1.2.2 ∧ _
    rw [w6]
    exact ⟨h.re h6, h6⟩
  | some f =>
    rw [hf, onI_s] at e2
    subst e2
    obtain ⟨f1, cf, vf, r1, r2, r3, r4, -⟩ := z_row h3.1 hf
    have no : ¬ acD D f → Wq 217 (d + 2 + 1) 64 [some (.ref 93), some (.int (nI A.length)), some (.int (nI f))] [] σ3 (fun y s => Qv (fun σ' => σ'.2.2 = σ1.2.2 ∧ KZ t n D σ0 (A ++ (3, slO (wv t a z) (some f), nI a, nI c) :: Z) (3 :: Ts) pe Ps (m2 w (acO D a c (some f))) σ') y s) := by
      intro q
      rw [show acO D a c (some f) = some c from if_neg q]
      refine S_Checker_actOf_64 h3.r0 ⟨by decide, vi, ?_⟩
      rw [ck, g4, nI_l (by omega)]
      refine yV rfl (z_note rfl h3 hc) fun σ6 h6 w6 => ⟨by decide, vi, ?_⟩
      rw [w6]
      exact ⟨(show (sL σ6 85 A.length (lN f)).2.2 = σ6.2.2 from rfl).trans (h.re h6), z_val h6⟩
    refine ⟨fun _ => ⟨by decide, vf, ?_⟩, fun y => absurd (nI_pos' (by omega)) y⟩
    rw [cf, r1, show ((nI (tkD D f) = (1 : Int32)) ↔ tkD D f = 1) from nI_eq (b := 1) (by omega) (by decide)]
    refine ⟨fun y => no fun q => y q.1, fun y => ⟨by decide, ?_⟩⟩
    refine yI (h.re h3) (z_tg h3.1 hf y) fun v σ4 ⟨e4, e5⟩ w4 => ?_
    subst e4
    rw [w4]
    refine ⟨fun q => ⟨by decide, vi, ?_⟩, fun q => no fun q2 => ?_⟩
    · have q2 : acD D f := by
        refine Classical.byContradiction fun q2 => q ?_
        rw [e5, if_neg q2]
      rw [show acO D a c (some f) = none from if_pos q2, m2_n, nI_l (by omega)]
      exact ⟨(show (sL σ4 85 A.length (lN f)).2.2 = σ4.2.2 from rfl).trans (h.re h3), z_val h3⟩
    · rw [e5, if_pos q2] at q
      exact absurd q (by decide)
end ZC
