/-! THE VERDICT ON A MODULE: what a module's parts must keep; the class -/
def vTy (m : Md) : Bool := (mdU m).all fun x => decide (x < (mdT m).length)
def lmB (x : Li) : Bool := match x.2 with
  | some b => decide (b < x.1)
  | none => false
def lmH (most : Nat) (x : Li) : Bool := decide (most < x.1) || match x.2 with
  | some b => decide (most < b)
  | none => false
def liV (most : Nat) (x : Li) : Int32 := if lmB x = true then -3 else if lmH most x = true then -2 else 0
def gKi (ty : Nat) : Nat := if ty = 127 then 65 else 66
def vGl (m : Md) : Bool := (mdG m).all fun x => decide (x.2.2.1 = gKi x.1)
def thN (m : Md) (kind : Nat) : Nat := if kind = 0 then (mdU m).length else if kind = 1 then (mdA m).length else if kind = 2 then (mdM m).length else (mdG m).length
def sameN (t : Nat → UInt8) (x y : Ex) : Bool := decide (x.2.1 = y.2.1) && (List.range x.2.1).all fun j => decide (t (x.1 + j) = t (y.1 + j))
def exAt (m : Md) (k : Nat) : Ex := ((mdE m)[k]?).getD (0, 0, 0, 0)
def vE1 (t : Nat → UInt8) (m : Md) (k : Nat) : Bool := decide ((exAt m k).2.2.2 < thN m (exAt m k).2.2.1) && (List.range k).all fun j => !sameN t (exAt m k) (exAt m j)
def vEx (t : Nat → UInt8) (m : Md) : Bool := (List.range (mdE m).length).all fun k => vE1 t m k
def vEl (m : Md) : Bool := (mdL m).all (fun x => decide ((mdA m).length ≠ 0) && decide (x.1 = 65)) && (elAll (mdL m)).all fun y => decide (y < (mdU m).length)
theorem allR {α : Type} {l : List α} {p : α → Bool} {W : Nat → Prop} {Y : Bool → Prop} (hY : Y (l.all p)) (h0 : Y true → W l.length) (hs : ∀ k x, l[k]? = some x → (p x = true → W (k + 1)) → (p x = false → Y false) → W k) : W 0 := by
  have key : ∀ (r k : Nat), k + r = l.length → Y ((l.drop k).all p) → W k := by
    intro r
    induction r with
    | zero =>
      intro k hk h
      have hk : k = l.length := by omega
      subst hk
      rw [List.drop_length] at h
      exact h0 h
    | succ r ih =>
      intro k hk h
      have hlt : k < l.length := by omega
      rw [List.drop_eq_getElem_cons hlt, List.all_cons] at h
      refine hs k l[k] (List.getElem?_eq_getElem hlt) (fun hp => ih (k + 1) (by omega) ?_) fun hp => ?_
      · rw [hp, Bool.true_and] at h
        exact h
      · rw [hp, Bool.false_and] at h
        exact h
  exact key l.length 0 (by omega) hY
theorem allN {n : Nat} {p : Nat → Bool} {W : Nat → Prop} {Y : Bool → Prop} (hY : Y ((List.range n).all p)) (h0 : Y true → W n) (hs : ∀ k, k < n → (p k = true → W (k + 1)) → (p k = false → Y false) → W k) : W 0 := by
  refine allR (l := List.range n) (W := W) hY (fun h => ?_) fun k x hx h1 h2 => ?_
  · rw [List.length_range]
    exact h0 h
  · have hk : k < n := by
      have := (List.getElem?_eq_some_iff.mp hx).1
      rwa [List.length_range] at this
    rw [List.getElem?_range hk] at hx
    cases hx
    exact hs k hk h1 h2
theorem get_lt {α : Type} {l : List α} {k : Nat} {x : α} (h : l[k]? = some x) : k < l.length := (List.getElem?_eq_some_iff.mp h).1
theorem nI_neg {x : Nat} (hx : x < 2 ^ 32) : nI x < 0 ↔ 2 ^ 31 ≤ x := by
  rw [Int32.lt_iff_toInt_lt]
  show (Int32.ofNat x).toInt < 0 ↔ _
  rw [Int32.toInt_ofNat']
  unfold Int.bmod
  simp only [Int32.size]
  omega
theorem lM_neg {x : Option Nat} (h : ∀ b, x = some b → b < 2 ^ 32) : lg_cmp (lM x) (0 : Int64) < 0 ↔ x = none := by
  rw [lg_cmp_lt]
  cases x with
  | none => exact ⟨fun _ => rfl, fun _ => by decide⟩
  | some b =>
    refine ⟨fun z => ?_, fun z => by cases z⟩
    have := (pk_lLT (a := b) (b := 0) (by have := h b rfl; omega) (by decide)).mp z
    omega
section FITX
variable {t : Nat → UInt8} {n d : Nat} {m : Md} {σ : fkS}
theorem c_vTy (hD : DX m σ) (hl : lenM m) (hf : fcM t n m) (h50 : σ.2.2 50 0 = 25) : Di d 58 [.ref 50] σ (fun r σ' => r = b2i (vTy m) ∧ σ' = σ) := by
  have l1 : (mdT m).length ≤ 60 := hl.1
  have l2 : (mdU m).length ≤ 60 := hl.2.1
  refine S_Judge_typesAreThere ?_
  refine allR (l := mdU m) (p := fun x => decide (x < (mdT m).length)) (W := fun k => Wq 58 d 2 [some (.ref 50), some (.int (nI k))] [] σ (Qi fun r σ' => σ'.2.2 = σ.2.2 ∧ r = b2i (vTy m) ∧ σ' = σ)) (Y := fun b => b = vTy m) rfl (fun h => ?_) fun k x hx hn hF => ?_
  · exact S_Judge_typesAreThere_2 h50 ⟨by decide, pk_le (mdU m).length (mdU m).length (fun _ => ⟨rfl, congrArg b2i h, rfl⟩) (fun z => absurd z (by omega)) hD.2.1.1⟩
  · have hk := get_lt hx
    have hx32 : x < 2 ^ 32 := hf.2.1 x (List.mem_of_getElem? hx)
    refine S_Judge_typesAreThere_2 h50 ⟨by decide, pk_le (mdU m).length k (fun z => absurd z (by omega)) (fun _ => ⟨by decide, vp_in_nI (by omega) (by decide), ?_⟩) hD.2.1.1⟩
    rw [nI_clamp (by omega), hD.2.1.2 k x hx, hD.1.1]
    refine ⟨fun z => ?_, fun z => ⟨by decide, vp_in_nI (by omega) (by decide), by decide, ?_⟩⟩
    · have := (nI_neg hx32).mp z
      exact ⟨rfl, congrArg b2i (hF (decide_eq_false (by omega))), rfl⟩
    · have hx31 : x < 2 ^ 31 := Nat.not_le.mp fun y => z ((nI_neg hx32).mpr y)
      refine pk_lt x (mdT m).length (fun y => ?_) (fun y => ?_)
      · rw [nI_1]
        exact hn (decide_eq_true y)
      · exact ⟨rfl, congrArg b2i (hF (decide_eq_false (by omega))), rfl⟩
theorem lim_fin {x : Li} {most : Nat} (hx : fLi x) (hm : most ≤ 100) {A B C : Prop} (h3 : lmB x = true → A) (h2 : lmB x = false → lmH most x = true → B) (h0 : lmB x = false → lmH most x = false → C) :
    (lg_cmp (lM x.2) (0 : Int64) < 0 ∨ ¬ lg_cmp (lM x.2) (0 : Int64) < 0 ∧ 0 ≤ lg_cmp (lM x.2) (lN x.1) → ((0 < lg_cmp (lN x.1) (nI most).toInt64 → B) ∧ (¬ 0 < lg_cmp (lN x.1) (nI most).toInt64 → (lg_cmp (lM x.2) (nI most).toInt64 ≤ 0 → C) ∧ (¬ lg_cmp (lM x.2) (nI most).toInt64 ≤ 0 → B)))) ∧ (¬ lg_cmp (lM x.2) (0 : Int64) < 0 → ¬ 0 ≤ lg_cmp (lM x.2) (lN x.1) → A) := by
  have hx1 : x.1 < 2 ^ 32 := hx.1
  rw [nI_l (by omega), lM_neg hx.2, lg_cmp_ge, lg_cmp_gt, lg_cmp_le]
  rw [pk_lLT (by omega) (by omega)]
  cases h : x.2 with
  | none =>
    have eB : lmB x = false := by unfold lmB; rw [h]
    have eH : lmH most x = decide (most < x.1) := by unfold lmH; rw [h]; exact Bool.or_false _
    refine ⟨fun _ => ⟨fun z => h2 eB (by rw [eH]; exact decide_eq_true z), fun z => ⟨fun _ => h0 eB (by rw [eH]; exact decide_eq_false z), fun y => absurd ?_ y⟩⟩, fun z => absurd rfl z⟩
    have : ∀ k : Fin 101, lM none ≤ lN k.val := by decide +kernel
    exact this ⟨most, by omega⟩
  | some b =>
    have hb : b < 2 ^ 32 := hx.2 b h
    have eB : lmB x = decide (b < x.1) := by unfold lmB; rw [h]
    have eH : lmH most x = (decide (most < x.1) || decide (most < b)) := by unfold lmH; rw [h]
    show (_ ∨ _ ∧ lN x.1 ≤ lN b → (_ → B) ∧ (_ → (lN b ≤ lN most → C) ∧ (¬ lN b ≤ lN most → B))) ∧ (_ → ¬ lN x.1 ≤ lN b → A)
    rw [pk_lLE (by omega) (by omega), pk_lLE (by omega) (by omega)]
    refine ⟨fun z => ?_, fun _ z => h3 (by rw [eB]; exact decide_eq_true (by omega))⟩
    have hle : x.1 ≤ b := by
      rcases z with z | z
      · cases z
      · exact z.2
    have eB : lmB x = false := by rw [eB]; exact decide_eq_false (by omega)
    refine ⟨fun y => h2 eB (by rw [eH, decide_eq_true y]; rfl), fun y => ⟨fun w => h0 eB (by rw [eH, decide_eq_false y, decide_eq_false (by omega)]; rfl), fun w => h2 eB (by rw [eH, decide_eq_true (show most < b by omega)]; exact Bool.or_true _)⟩⟩
theorem liV3 {x : Li} {most : Nat} (h : lmB x = true) : liV most x = -3 := if_pos h
theorem liV2 {x : Li} {most : Nat} (h : lmB x = false) (h2 : lmH most x = true) : liV most x = -2 := by
  unfold liV
  rw [h, h2]
  rfl
theorem liV0 {x : Li} {most : Nat} (h : lmB x = false) (h2 : lmH most x = false) : liV most x = 0 := by
  unfold liV
  rw [h, h2]
  rfl
theorem c_lim28 {x : Li} {most : Nat} (h : DL28 x σ) (hx : fLi x) (hm : most ≤ 100) : Di d 59 [.ref 50, .ref 28, .int (nI most)] σ (fun r σ' => r = liV most x ∧ σ' = σ) := by
  obtain ⟨f1, f2⟩ := lim_fin (A := (-3 : Int32) = liV most x) (B := (-2 : Int32) = liV most x) (C := (0 : Int32) = liV most x) hx hm (fun z => (liV3 z).symm) (fun z y => (liV2 z y).symm) fun z y => (liV0 z y).symm
  have e0 : (0 : Int32).toNatClampNeg = 0 := rfl
  have e1 : (1 : Int32).toNatClampNeg = 1 := rfl
  have g : (lg_cmp (lM x.2) (0 : Int64) < 0 ∨ ¬ lg_cmp (lM x.2) (0 : Int64) < 0 ∧ 0 ≤ lg_cmp (lM x.2) (lN x.1)) → Wq 59 d 21 [none, some (.ref 28), some (.int (nI most))] [] σ (Qi fun r σ' => σ'.2.2 = σ.2.2 ∧ r = liV most x ∧ σ' = σ) := fun z => by
    refine S_Judge_limitsVerdict_21 ⟨vp_in_nI (n := 0) (by decide) (by decide), ?_⟩
    rw [e0, e1, h.1, h.2]
    exact ⟨fun y => ⟨rfl, (f1 z).1 y, rfl⟩, fun y => ⟨vp_in_nI (n := 1) (by decide) (by decide), fun w => ⟨rfl, ((f1 z).2 y).1 w, rfl⟩, fun w => ⟨rfl, ((f1 z).2 y).2 w, rfl⟩⟩⟩
  refine S_Judge_limitsVerdict ⟨vp_in_nI (n := 1) (by decide) (by decide), ?_⟩
  rw [e0, e1, h.1, h.2]
  exact ⟨fun z => g (.inl z), fun z => ⟨vp_in_nI (n := 1) (by decide) (by decide), vp_in_nI (n := 0) (by decide) (by decide), fun y => g (.inr ⟨z, y⟩), fun y => ⟨rfl, f2 z y, rfl⟩⟩⟩
theorem c_lim29 {x : Li} {most : Nat} (h : DL29 x σ) (hx : fLi x) (hm : most ≤ 100) : Di d 59 [.ref 50, .ref 29, .int (nI most)] σ (fun r σ' => r = liV most x ∧ σ' = σ) := by
  obtain ⟨f1, f2⟩ := lim_fin (A := (-3 : Int32) = liV most x) (B := (-2 : Int32) = liV most x) (C := (0 : Int32) = liV most x) hx hm (fun z => (liV3 z).symm) (fun z y => (liV2 z y).symm) fun z y => (liV0 z y).symm
  have e0 : (0 : Int32).toNatClampNeg = 0 := rfl
  have e1 : (1 : Int32).toNatClampNeg = 1 := rfl
  have g : (lg_cmp (lM x.2) (0 : Int64) < 0 ∨ ¬ lg_cmp (lM x.2) (0 : Int64) < 0 ∧ 0 ≤ lg_cmp (lM x.2) (lN x.1)) → Wq 59 d 21 [none, some (.ref 29), some (.int (nI most))] [] σ (Qi fun r σ' => σ'.2.2 = σ.2.2 ∧ r = liV most x ∧ σ' = σ) := fun z => by
    refine S_Judge_limitsVerdict_v1_21 ⟨vp_in_nI (n := 0) (by decide) (by decide), ?_⟩
    rw [e0, e1, h.1, h.2]
    exact ⟨fun y => ⟨rfl, (f1 z).1 y, rfl⟩, fun y => ⟨vp_in_nI (n := 1) (by decide) (by decide), fun w => ⟨rfl, ((f1 z).2 y).1 w, rfl⟩, fun w => ⟨rfl, ((f1 z).2 y).2 w, rfl⟩⟩⟩
  refine S_Judge_limitsVerdict_v1 ⟨vp_in_nI (n := 1) (by decide) (by decide), ?_⟩
  rw [e0, e1, h.1, h.2]
  exact ⟨fun z => g (.inl z), fun z => ⟨vp_in_nI (n := 1) (by decide) (by decide), vp_in_nI (n := 0) (by decide) (by decide), fun y => g (.inr ⟨z, y⟩), fun y => ⟨rfl, f2 z y, rfl⟩⟩⟩
theorem c_vGl (hD : DX m σ) (hl : lenM m) (hf : fcM t n m) (h50 : σ.2.2 50 0 = 25) : Di d 60 [.ref 50] σ (fun r σ' => r = b2i (vGl m) ∧ σ' = σ) := by
  obtain ⟨-, -, -, -, ⟨hG1, hG2⟩, -⟩ := hD
  have l1 : (mdG m).length ≤ 60 := hl.2.2.2.2.1
  refine S_Judge_globalsFit ?_
  refine allR (l := mdG m) (p := fun x => decide (x.2.2.1 = gKi x.1)) (W := fun k => Wq 60 d 2 [some (.ref 50), some (.int (nI k)), none] [] σ (Qi fun r σ' => σ'.2.2 = σ.2.2 ∧ r = b2i (vGl m) ∧ σ' = σ)) (Y := fun b => b = vGl m) rfl (fun h => ?_) fun k x hx hn hF => ?_
  · exact S_Judge_globalsFit_2 h50 ⟨by decide, pk_le (mdG m).length (mdG m).length (fun _ => ⟨rfl, congrArg b2i h, rfl⟩) (fun z => absurd z (by omega)) hG1⟩
  · have hk := get_lt hx
    obtain ⟨a1, a2, a3⟩ := hf.2.2.2.2.1 x (List.mem_of_getElem? hx)
    obtain ⟨b1, b2, b3, b4⟩ := hG2 k x hx
    have e3 : (3 : Int32) * nI k = nI (3 * k) := by rw [show (3 : Int32) = nI 3 from rfl, nI_mul]
    have e32 : (3 : Int32) * nI k + 2 = nI (3 * k + 2) := by rw [e3, show (2 : Int32) = nI 2 from rfl, nI_add]
    have a31 : x.2.2.1 < 2 ^ 31 := by rcases a3 with z | z | z <;> omega
    have a11 : x.1 < 2 ^ 31 := by rcases a1 with z | z <;> omega
    have fin : ∀ v, v < 100 → v = gKi x.1 → Wq 60 d 36 [some (.ref 50), some (.int (nI k)), none] [.int (nI v)] σ (Qi fun r σ' => σ'.2.2 = σ.2.2 ∧ r = b2i (vGl m) ∧ σ' = σ) := fun v hv hvx => by
      refine S_Judge_globalsFit_36 h50 ⟨by decide, ?_⟩
      rw [e32]
      refine ⟨vp_in_nI (by omega) (by decide), ?_⟩
      rw [nI_clamp (by omega), b3]
      refine pk_eq x.2.2.1 v (fun z => ?_) fun z => ⟨rfl, congrArg b2i (hF (decide_eq_false (by omega))), rfl⟩
      rw [nI_1]
      exact hn (decide_eq_true (by omega))
    refine S_Judge_globalsFit_2 h50 ⟨by decide, pk_le (mdG m).length k (fun z => absurd z (by omega)) (fun _ => ⟨by decide, ?_⟩) hG1⟩
    rw [e3]
    refine ⟨vp_in_nI (by omega) (by decide), ?_⟩
    rw [nI_clamp (by omega), b1]
    refine And.comm.mp (pk_eq x.1 127 (fun z => fin 65 (by decide) (by unfold gKi; rw [if_pos z])) fun z => fin 66 (by decide) (by unfold gKi; rw [if_neg z]))
end FITX
