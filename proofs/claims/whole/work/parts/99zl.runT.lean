/-! THE CLASS runs: two with a sign between -/
theorem div_m1 (a : Int32) : a / (-1 : Int32) = -a := by
  refine Int32.toInt_inj.1 ?_
  rw [Int32.toInt_div, show (-1 : Int32).toInt = -1 by decide, Int.tdiv_neg, Int.tdiv_one, Int32.toInt_neg]
theorem rem_m1 (a : Int32) : a - a / (-1 : Int32) * (-1 : Int32) = 0 := by
  rw [div_m1, Int32.neg_mul_neg, Int32.mul_one, Int32.sub_self]
section XT2
variable {σ0 σ : fkS} {A : List Int32} {F : List (Nat × Nat)} {s : rwS} {p d : Nat}
/-- what comes of it: a value, an error -/
def XO1 (σ0 : fkS) (A : List Int32) (F : List (Nat × Nat)) (s : rwS) (p : Nat) (r : Except Nat (List Int32)) (σ : fkS) : Prop := σ.2.2 = σ0.2.2 ∧ (∀ v, r = .ok [v] → XM σ0 (v :: A) F s p σ) ∧ (∀ x, r = .error x → XEr σ0 s x σ)
theorem XO1.ok {v : Int32} (h : XM σ0 (v :: A) F s p σ) : XO1 σ0 A F s p (.ok [v]) σ := ⟨h.2.2.2.2.2.1, (fun u hu => by cases hu; exact h), (fun x hx => by cases hx)⟩
theorem rx_div {k : Nat} {x y : Int32} (h : XM σ0 A F s p σ) (hl : A.length < 12000) (hk : k < 1000) : Dv (d + 1) 230 [.ref 98, .int (nI k), .int x, .int y] σ (fun σ' => XO1 σ0 A F s p (if y = 0 then .error 1 else if k = 47 then .ok [x / y] else .ok [x - x / y * y]) σ') := by
  have kk : (nI k = (47 : Int32)) ↔ k = 47 := nI_eq (b := 47) (by omega) (by decide)
  have push : ∀ v : Int32, Dv d 225 [.ref 98, .int v] σ (fun σ3 => Qv (fun σ' => σ'.2.2 = σ.2.2 ∧ XO1 σ0 A F s p (.ok [v]) σ') none (sW σ3 σ)) := fun v => by
    refine yV rfl (rx_push h hl) fun σ5 h5 w5 => ?_
    show (sW σ5 σ).2.2 = σ.2.2 ∧ _
    rw [w5]
    exact ⟨h5.2.2.2.2.2.1.trans h.2.2.2.2.2.1.symm, XO1.ok h5⟩
  refine S_Runner_divide ?_
  rw [kk]
  refine ⟨fun y0 => ⟨fun y1 => ⟨fun k1 => ⟨y0, ?_⟩, fun k1 => ⟨y0, ?_⟩⟩, fun y1 => ⟨fun k1 => ?_, fun k1 => ?_⟩⟩, fun y0 => ⟨rfl, ?_⟩⟩
  · rw [if_neg y0, if_neg k1]
    exact push _
  · rw [if_neg y0, if_pos k1]
    exact push _
  · subst y1
    rw [if_neg y0, if_neg k1, rem_m1]
    exact push _
  · subst y1
    rw [if_neg y0, if_pos k1, div_m1]
    exact push _
  · rw [if_pos y0]
    exact ⟨h.2.2.2.2.2.1, (fun v hv => by cases hv), (fun x hx => by cases hx; exact h.err (x := 1))⟩
/-- two with a sign between -/
theorem rx_op {k : Nat} {x y : Int32} (h : XM σ0 (y :: x :: A) F s p σ) (hk : k < 1000) : Dv (d + 2) 228 [.ref 98, .int (nI k)] σ (fun σ' => XO1 σ0 A F s p (rO2 k x y) σ') := by
  have hA : A.length + 2 ≤ 12000 := h.1.2.1
  have kt : (nI k).toInt = (k : Int) := nI_toInt (by omega)
  refine S_Runner_operate (d := d + 1) (yI rfl (rx_pop h) fun v σ1 ⟨hv, h1⟩ w1 => ?_)
  subst hv
  rw [w1]
  refine yI (h1.2.2.2.2.2.1.trans h.2.2.2.2.2.1.symm) (rx_pop h1) fun u σ3 ⟨hu, h3⟩ w3 => ?_
  subst hu
  rw [w3, kt]
  have hr3 : σ3.2.2 = σ.2.2 := h3.2.2.2.2.2.1.trans h.2.2.2.2.2.1.symm
  have push : ∀ w : Int32, Dv (d + 1) 225 [.ref 98, .int w] σ3 (fun σ4 => Qv (fun σ' => σ'.2.2 = σ.2.2 ∧ XO1 σ0 A F s p (.ok [w]) σ') none (sW σ4 σ)) := fun w => by
    refine yV hr3 (rx_push h3 (by omega)) fun σ5 h5 w5 => ?_
    show (sW σ5 σ).2.2 = σ.2.2 ∧ _
    rw [w5]
    exact ⟨h5.2.2.2.2.2.1.trans h.2.2.2.2.2.1.symm, XO1.ok h5⟩
  unfold rO2
  refine ⟨fun y => ?_, fun n1 => ⟨fun y => ?_, fun n2 => ⟨fun y => ?_, fun n3 => ⟨fun y => ⟨fun c => ?_, fun c => ?_⟩, fun n4 => ⟨fun y => ⟨fun c => ?_, fun c => ?_⟩, fun n5 => ?_⟩⟩⟩⟩⟩
  · rw [if_pos (show k = 42 by omega)]; exact push _
  · rw [if_neg (show ¬ k = 42 by omega), if_pos (show k = 43 by omega)]; exact push _
  · rw [if_neg (show ¬ k = 42 by omega), if_neg (show ¬ k = 43 by omega), if_pos (show k = 45 by omega)]; exact push _
  · rw [if_neg (show ¬ k = 42 by omega), if_neg (show ¬ k = 43 by omega), if_neg (show ¬ k = 45 by omega), if_pos (show k = 60 by omega), if_neg (Int32.not_lt.mpr c)]; exact push _
  · rw [if_neg (show ¬ k = 42 by omega), if_neg (show ¬ k = 43 by omega), if_neg (show ¬ k = 45 by omega), if_pos (show k = 60 by omega), if_pos (Int32.not_le.mp c)]; exact push _
  · rw [if_neg (show ¬ k = 42 by omega), if_neg (show ¬ k = 43 by omega), if_neg (show ¬ k = 45 by omega), if_neg (show ¬ k = 60 by omega), if_pos (show k = 128 by omega), if_neg c]; exact push _
  · rw [if_neg (show ¬ k = 42 by omega), if_neg (show ¬ k = 43 by omega), if_neg (show ¬ k = 45 by omega), if_neg (show ¬ k = 60 by omega), if_pos (show k = 128 by omega), if_pos c]; exact push _
  · rw [if_neg (show ¬ k = 42 by omega), if_neg (show ¬ k = 43 by omega), if_neg (show ¬ k = 45 by omega), if_neg (show ¬ k = 60 by omega), if_neg (show ¬ k = 128 by omega)]
    refine yV hr3 (rx_div (d := d) (k := k) h3 (by omega) hk) fun σ5 h5 w5 => ?_
    show (sW σ5 σ).2.2 = σ.2.2 ∧ _
    rw [w5]
    exact ⟨h5.1.trans h.2.2.2.2.2.1.symm, h5⟩
end XT2
