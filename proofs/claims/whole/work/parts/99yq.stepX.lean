/-! THE CLASS judges: each entry of CODE -/
section ZS
variable {t : Nat → UInt8} {n d en : Nat} {D : List FD} {σ0 σ : fkS} {A Z : List cdE} {Ts Ps : List Nat} {pe : List pE1} {w : Option Nat} {v1 : Int32} {Q : Option Value → fkS → Prop}
theorem mid_at {e : cdE} : (A ++ e :: Z)[A.length]? = some e := by
  rw [List.getElem?_append_right (Nat.le_refl _), Nat.sub_self]; rfl
theorem KZ.le3 (h : KZ t n D σ0 (A ++ Z) Ts pe Ps w σ) : A.length ≤ 3000 := by
  have := h.1.1.2.1
  rw [List.length_append] at this
  omega
theorem KZ.lt {e : cdE} (h : KZ t n D σ0 (A ++ e :: Z) Ts pe Ps w σ) : A.length < 3000 := by
  have := h.1.1.2.1
  rw [List.length_append, List.length_cons] at this
  omega
/-- one entry -/
theorem z_st {e : cdE} (h : KZ t n D σ0 (A ++ e :: Z) Ts pe Ps w σ) (he : A.length < en) (hen : en ≤ 3000) (h17 : ¬ e.1 = 17) (c : Dv (d + 4) 212 [.ref 93, .int (nI A.length), .int e.1] σ (fun σ1 => Wq 207 (d + 5) 119 [some (.ref 93), some (.int v1), some (.int (nI en)), some (.int (nI (A.length + 1)))] [] σ1 Q)) : Wq 207 (d + 5) 119 [some (.ref 93), some (.int v1), some (.int (nI en)), some (.int (nI A.length))] [] σ Q := by
  have hl := h.lt
  obtain ⟨c1, -⟩ := h.1.1.2.2 A.length e mid_at
  have ck : (nI A.length).toNatClampNeg = A.length := nI_clamp (by omega)
  have vi : vp_in (nI A.length) 3000 := vp_in_nI hl (by decide)
  refine S_Checker_checkBody_119 (d := d + 4) h.r0 ?_
  rw [ck, c1, (nI_succ A.length).symm]
  refine ⟨fun y => absurd y (nI_ge he (by omega)), fun _ => ⟨by decide, vi, fun _ => ⟨by decide, vi, ?_⟩, fun y => absurd y h17⟩⟩
  exact yV rfl c fun σ1 q w1 => by rw [w1]; exact q
theorem toI (k : Nat) (hk : k < 1000) : (nI k).toInt = (k : Int) := nI_toInt (by omega)
/-- an entry whose walk is told -/
theorem z_c {k : Nat} {e : cdE} {C' : List cdE} {Ts' Ps' : List Nat} {pe' : List pE1} {w' : Option Nat} (h : KZ t n D σ0 (A ++ e :: Z) Ts pe Ps w σ) (ek : e.1 = nI k) (hk : k < 1000) (h17 : k ≠ 17) (he : A.length < en) (hen : en ≤ 3000) (c : Dv (d + 4) 212 [.ref 93, .int (nI A.length), .int (nI k)] σ (fun σ1 => KZ t n D σ0 C' Ts' pe' Ps' w' σ1)) (go : ∀ σ', KZ t n D σ0 C' Ts' pe' Ps' w' σ' → Wq 207 (d + 5) 119 [some (.ref 93), some (.int v1), some (.int (nI en)), some (.int (nI (A.length + 1)))] [] σ' Q) : Wq 207 (d + 5) 119 [some (.ref 93), some (.int v1), some (.int (nI en)), some (.int (nI A.length))] [] σ Q := by
  refine z_st h he hen (fun y => ?_) ?_
  · rw [ek] at y
    exact h17 ((nI_eq (b := 17) (by omega) (by decide)).mp y)
  · rw [ek]
    exact yV (σE := σ) rfl c fun σ1 h1 _ => go σ1 h1
/-- what ends a walk of check -/
theorem z_f {j : Nat} {as : List Value} {P : fkS → Prop} {σ1 : fkS} (hr : σ1.2.2 = σ.2.2) (c : Dv d j as σ1 P) : Dv d j as σ1 (fun s => Qv (fun σ' => σ'.2.2 = σ.2.2 ∧ P σ') none (sW s σ)) := by
  refine c.mono fun x s hx => ?_
  obtain ⟨rfl, e, p⟩ := Qv_s hx
  refine ⟨e, ?_⟩
  show (sW s σ).2.2 = σ.2.2 ∧ P (sW s σ)
  rw [sW_eq (e.trans hr)]
  exact ⟨e.trans hr, p⟩
/-- check: which way -/
theorem z_ck {i : Int32} {k : Nat} {P : fkS → Prop} (h0 : σ.2.2 93 0 = 76) (hk : k < 1000)
    (c0 : k = 0 → Dv d 208 [.ref 93, .int (1 : Int32)] σ P)
    (c1 : k = 1 → Dv d 213 [.ref 93, .int i] σ P)
    (c2 : k = 2 → Dv d 215 [.ref 93, .int i] σ P)
    (c3 : k = 3 → Dv d 217 [.ref 93, .int i] σ P)
    (c4 : k = 4 → Dv d 208 [.ref 93, .int (2 : Int32)] σ P)
    (c5 : k = 5 → Dv d 216 [.ref 93, .int (2 : Int32)] σ (fun σ7 => Dv d 208 [.ref 93, .int (2 : Int32)] σ7 P))
    (c14 : k = 14 → vp_in i 3000 ∧ Dv d 210 [.ref 93, .int ((σ.2.1 85 i.toNatClampNeg).toInt32), .int (σ.1 86 i.toNatClampNeg)] σ P)
    (c15 : k = 15 → Dv d 219 [.ref 93, .int i] σ P)
    (cX : 6 ≤ k → k ≠ 14 → k ≠ 15 → Dv d 220 [.ref 93, .int i, .int (nI k)] σ P) : Dv (d + 1) 212 [.ref 93, .int i, .int (nI k)] σ P := by
  refine S_Checker_check h0 ?_
  rw [toI k hk]
  refine ⟨fun y => z_f rfl (cX (by omega) (by omega) (by omega)), fun y => z_f rfl (c0 (by omega)), fun y => z_f rfl (c1 (by omega)), fun y => z_f rfl (c2 (by omega)), fun y => z_f rfl (c3 (by omega)), fun y => z_f rfl (c4 (by omega)), fun y => ?_, fun y => z_f rfl (cX (by omega) (by omega) (by omega)), fun y => z_f rfl (cX (by omega) (by omega) (by omega)), fun y => z_f rfl (cX (by omega) (by omega) (by omega)), fun y => z_f rfl (cX (by omega) (by omega) (by omega)), fun y => z_f rfl (cX (by omega) (by omega) (by omega)), fun y => z_f rfl (cX (by omega) (by omega) (by omega)), fun y => z_f rfl (cX (by omega) (by omega) (by omega)), fun y => z_f rfl (cX (by omega) (by omega) (by omega)), fun y => ?_, fun y => z_f rfl (c15 (by omega)), trivial⟩
  · refine (c5 (by omega)).mono fun x s hx => ?_
    obtain ⟨rfl, e, p⟩ := Qv_s hx
    refine ⟨e, ?_⟩
    simp only [sW_eq e]
    exact z_f e p
  · exact ⟨by decide, (c14 (by omega)).1, by decide, (c14 (by omega)).1, z_f rfl (c14 (by omega)).2⟩
end ZS
