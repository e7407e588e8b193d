/-! ONE STEP OF THE SMALL MACHINE AS A PREDICATE, and its soundness -/
abbrev fkI : Type := Instr × Nat × List Nat
abbrev fkK : Type := Nat → List (Option Value) → List Value → fkS → Prop
def fk_p1 (st : List Value) (K : Int32 → List Value → Prop) : Prop := match st with
  | .int x :: r => K x r
  | _ => False
def fk_p2 (st : List Value) (K : Int32 → Int32 → List Value → Prop) : Prop := match st with
  | .int y :: .int x :: r => K x y r
  | _ => False
def fk_l1 (st : List Value) (K : Int64 → List Value → Prop) : Prop := match st with
  | .long x :: r => K x r
  | _ => False
def fk_l2 (st : List Value) (K : Int64 → Int64 → List Value → Prop) : Prop := match st with
  | .long y :: .long x :: r => K x y r
  | _ => False
def fk_li (st : List Value) (K : Int64 → Int32 → List Value → Prop) : Prop := match st with
  | .int y :: .long x :: r => K x y r
  | _ => False
def fk_r1 (st : List Value) (K : Nat → List Value → Prop) : Prop := match st with
  | .ref c :: r => K c r
  | _ => False
def fk_ri (st : List Value) (K : Nat → Int32 → List Value → Prop) : Prop := match st with
  | .int i :: .ref c :: r => K c i r
  | _ => False
def fk_rii (st : List Value) (K : Nat → Int32 → Int32 → List Value → Prop) : Prop := match st with
  | .int v :: .int i :: .ref c :: r => K c i v r
  | _ => False
def fk_ril (st : List Value) (K : Nat → Int32 → Int64 → List Value → Prop) : Prop := match st with
  | .long v :: .int i :: .ref c :: r => K c i v r
  | _ => False
def fk_rI (st : List Value) (K : Nat → Int32 → List Value → Prop) : Prop := match st with
  | .int v :: .ref c :: r => K c v r
  | _ => False
def fk_rL (st : List Value) (K : Nat → Int64 → List Value → Prop) : Prop := match st with
  | .long v :: .ref c :: r => K c v r
  | _ => False
def fk_rR (st : List Value) (K : Nat → Nat → List Value → Prop) : Prop := match st with
  | .ref v :: .ref c :: r => K c v r
  | _ => False
def fk_v1 (st : List Value) (K : Value → List Value → Prop) : Prop := match st with
  | v :: r => K v r
  | _ => False
def fk_v2 (st : List Value) (K : Value → Value → List Value → Prop) : Prop := match st with
  | v :: u :: r => K v u r
  | _ => False
def fk_cp (st : List Value) (K : Nat → Int32 → Nat → Int32 → Int32 → List Value → Prop) : Prop := match st with
  | .int n :: .int dp :: .ref b :: .int sp :: .ref a :: r => K a sp b dp n r
  | _ => False
def fk_e1 (st : List Value) (K : Int32 → Prop) : Prop := match st with
  | [.int x] => K x
  | _ => False
def fk_el (st : List Value) (K : Int64 → Prop) : Prop := match st with
  | [.long x] => K x
  | _ => False
def fk_en0 (st : List Value) (K : Prop) : Prop := match st with
  | [] => K
  | _ => False
theorem fk_p1_s {st K} (h : fk_p1 st K) : ∃ x r, st = .int x :: r ∧ K x r := by unfold fk_p1 at h; split at h; exact ⟨_, _, rfl, h⟩; exact h.elim
theorem fk_p2_s {st K} (h : fk_p2 st K) : ∃ x y r, st = .int y :: .int x :: r ∧ K x y r := by unfold fk_p2 at h; split at h; exact ⟨_, _, _, rfl, h⟩; exact h.elim
theorem fk_l1_s {st K} (h : fk_l1 st K) : ∃ x r, st = .long x :: r ∧ K x r := by unfold fk_l1 at h; split at h; exact ⟨_, _, rfl, h⟩; exact h.elim
theorem fk_l2_s {st K} (h : fk_l2 st K) : ∃ x y r, st = .long y :: .long x :: r ∧ K x y r := by unfold fk_l2 at h; split at h; exact ⟨_, _, _, rfl, h⟩; exact h.elim
theorem fk_li_s {st K} (h : fk_li st K) : ∃ x y r, st = .int y :: .long x :: r ∧ K x y r := by unfold fk_li at h; split at h; exact ⟨_, _, _, rfl, h⟩; exact h.elim
theorem fk_r1_s {st K} (h : fk_r1 st K) : ∃ c r, st = .ref c :: r ∧ K c r := by unfold fk_r1 at h; split at h; exact ⟨_, _, rfl, h⟩; exact h.elim
theorem fk_ri_s {st K} (h : fk_ri st K) : ∃ c i r, st = .int i :: .ref c :: r ∧ K c i r := by unfold fk_ri at h; split at h; exact ⟨_, _, _, rfl, h⟩; exact h.elim
theorem fk_rii_s {st K} (h : fk_rii st K) : ∃ c i v r, st = .int v :: .int i :: .ref c :: r ∧ K c i v r := by unfold fk_rii at h; split at h; exact ⟨_, _, _, _, rfl, h⟩; exact h.elim
theorem fk_ril_s {st K} (h : fk_ril st K) : ∃ c i v r, st = .long v :: .int i :: .ref c :: r ∧ K c i v r := by unfold fk_ril at h; split at h; exact ⟨_, _, _, _, rfl, h⟩; exact h.elim
theorem fk_rI_s {st K} (h : fk_rI st K) : ∃ c v r, st = .int v :: .ref c :: r ∧ K c v r := by unfold fk_rI at h; split at h; exact ⟨_, _, _, rfl, h⟩; exact h.elim
theorem fk_rL_s {st K} (h : fk_rL st K) : ∃ c v r, st = .long v :: .ref c :: r ∧ K c v r := by unfold fk_rL at h; split at h; exact ⟨_, _, _, rfl, h⟩; exact h.elim
theorem fk_rR_s {st K} (h : fk_rR st K) : ∃ c v r, st = .ref v :: .ref c :: r ∧ K c v r := by unfold fk_rR at h; split at h; exact ⟨_, _, _, rfl, h⟩; exact h.elim
theorem fk_v1_s {st K} (h : fk_v1 st K) : ∃ v r, st = v :: r ∧ K v r := by unfold fk_v1 at h; split at h; exact ⟨_, _, rfl, h⟩; exact h.elim
theorem fk_v2_s {st K} (h : fk_v2 st K) : ∃ v u r, st = v :: u :: r ∧ K v u r := by unfold fk_v2 at h; split at h; exact ⟨_, _, _, rfl, h⟩; exact h.elim
theorem fk_cp_s {st K} (h : fk_cp st K) : ∃ a sp b dp n r, st = .int n :: .int dp :: .ref b :: .int sp :: .ref a :: r ∧ K a sp b dp n r := by unfold fk_cp at h; split at h; exact ⟨_, _, _, _, _, _, rfl, h⟩; exact h.elim
theorem fk_e1_s {st K} (h : fk_e1 st K) : ∃ x, st = [.int x] ∧ K x := by unfold fk_e1 at h; split at h; exact ⟨_, rfl, h⟩; exact h.elim
theorem fk_el_s {st K} (h : fk_el st K) : ∃ x, st = [.long x] ∧ K x := by unfold fk_el at h; split at h; exact ⟨_, rfl, h⟩; exact h.elim
theorem fk_en0_s {st K} (h : fk_en0 st K) : st = [] ∧ K := by unfold fk_en0 at h; split at h; exact ⟨rfl, h⟩; exact h.elim
def fk_lI (ls : List (Option Value)) (i : Nat) (K : Int32 → Prop) : Prop := match ls[i]? with
  | some (some (.int x)) => K x
  | _ => False
def fk_lL (ls : List (Option Value)) (i : Nat) (K : Int64 → Prop) : Prop := match ls[i]? with
  | some (some (.long x)) => K x
  | _ => False
def fk_lR (ls : List (Option Value)) (i : Nat) (K : Nat → Prop) : Prop := match ls[i]? with
  | some (some (.ref x)) => K x
  | _ => False
theorem fk_lI_s {ls i K} (h : fk_lI ls i K) : ∃ x, ls[i]? = some (some (.int x)) ∧ K x := by
  unfold fk_lI at h
  split at h
  · exact ⟨_, by assumption, h⟩
  · exact h.elim
theorem fk_lL_s {ls i K} (h : fk_lL ls i K) : ∃ x, ls[i]? = some (some (.long x)) ∧ K x := by
  unfold fk_lL at h
  split at h
  · exact ⟨_, by assumption, h⟩
  · exact h.elim
theorem fk_lR_s {ls i K} (h : fk_lR ls i K) : ∃ x, ls[i]? = some (some (.ref x)) ∧ K x := by
  unfold fk_lR at h
  split at h
  · exact ⟨_, by assumption, h⟩
  · exact h.elim
/-- a flag is 0 or 1 -/
def fk_bz (x : Int32) (P : Prop) : Prop := cond (decide (x = 0) || decide (x = 1)) P False
theorem fk_bz_s {x P} (h : fk_bz x P) : (x = 0 ∨ x = 1) ∧ P := by
  unfold fk_bz at h
  by_cases h0 : x = 0
  · simp [h0] at h; exact ⟨Or.inl h0, h⟩
  · by_cases h1 : x = 1
    · simp [h1] at h; exact ⟨Or.inr h1, h⟩
    · simp [h0, h1] at h
theorem fk_bz_i {x : Int32} {P : Prop} (hx : x = 0 ∨ x = 1) (h : P) : fk_bz x P := by
  unfold fk_bz
  rcases hx with rfl | rfl <;> simpa using h
def fk_obj (c ci : Nat) (P : Prop) : Prop := match fk_sh[c]? with
  | some (t, _) => cond (Nat.beq t (ci + 4)) P False
  | none => False
theorem fk_obj_s {c ci P} (h : fk_obj c ci P) : (∃ n, fk_sh[c]? = some (ci + 4, n)) ∧ P := by
  unfold fk_obj at h
  split at h
  next t n hs =>
    cases hb : Nat.beq t (ci + 4) with
    | true => rw [hb] at h; exact ⟨⟨n, by rw [hs, Nat.eq_of_beq_eq_true hb]⟩, h⟩
    | false => rw [hb] at h; exact h.elim
  next => exact h.elim
def fk_arr (c t : Nat) (K : Nat → Prop) : Prop := match fk_sh[c]? with
  | some (u, n) => cond (Nat.beq u t) (K n) False
  | none => False
theorem fk_arr_s {c t K} (h : fk_arr c t K) : ∃ n, fk_sh[c]? = some (t, n) ∧ K n := by
  unfold fk_arr at h
  split at h
  next u n hs =>
    cases hb : Nat.beq u t with
    | true => rw [hb] at h; exact ⟨n, by rw [hs, Nat.eq_of_beq_eq_true hb], h⟩
    | false => rw [hb] at h; exact h.elim
  next => exact h.elim
/-- an array of bytes (true) or flags (false) -/
def fk_arb (c : Nat) (K : Bool → Nat → Prop) : Prop := match fk_sh[c]? with
  | some (u, n) => cond (Nat.beq u 2) (K true n) (cond (Nat.beq u 3) (K false n) False)
  | none => False
theorem fk_arb_s {c K} (h : fk_arb c K) : ∃ n, (fk_sh[c]? = some (2, n) ∧ K true n) ∨ (fk_sh[c]? = some (3, n) ∧ K false n) := by
  unfold fk_arb at h
  split at h
  next u n hs =>
    cases hb : Nat.beq u 2 with
    | true => rw [hb] at h; exact ⟨n, Or.inl ⟨by rw [hs, Nat.eq_of_beq_eq_true hb], h⟩⟩
    | false =>
      rw [hb] at h
      cases hb2 : Nat.beq u 3 with
      | true => rw [hb2] at h; exact ⟨n, Or.inr ⟨by rw [hs, Nat.eq_of_beq_eq_true hb2], h⟩⟩
      | false => rw [hb2] at h; exact h.elim
  next => exact h.elim
def fk_alen (c : Nat) (K : Nat → Prop) : Prop := match fk_sh[c]? with
  | some (u, n) => cond (Nat.blt u 4) (K n) False
  | none => False
theorem fk_alen_s {c K} (h : fk_alen c K) : ∃ t n, fk_sh[c]? = some (t, n) ∧ t < 4 ∧ K n := by
  unfold fk_alen at h
  split at h
  next u n hs =>
    cases hb : Nat.blt u 4 with
    | true => rw [hb] at h; exact ⟨u, n, hs, Nat.le_of_ble_eq_true hb, h⟩
    | false => rw [hb] at h; exact h.elim
  next => exact h.elim
/-- a field of a cell as it is read -/
def fk_gf (c slot t : Nat) (σ : fkS) (K : Value → Prop) : Prop := match t with
  | 0 => K (.int (σ.1 c slot))
  | 1 => K (.int (σ.1 c slot))
  | 2 => K (.int (σ.1 c slot))
  | 3 => K (.long (σ.2.1 c slot))
  | 4 => K (.ref (fk_cr c slot))
  | _ => ¬ σ.2.2 c slot = 0 ∧ K (.ref (σ.2.2 c slot - 1))
theorem fk_gf_s {c slot t σ K} (h : fk_gf c slot t σ K) : ∃ v, (∀ g : fkG, fk_fv (σ.1 c) (σ.2.1 c) (σ.2.2 c) g c slot t = fk_tr g v) ∧ K v := by
  unfold fk_gf at h
  split at h
  · exact ⟨_, fun _ => rfl, h⟩
  · exact ⟨_, fun _ => rfl, h⟩
  · exact ⟨_, fun _ => rfl, h⟩
  · exact ⟨_, fun _ => rfl, h⟩
  · exact ⟨_, fun _ => rfl, h⟩
  next n0 n1 n2 n3 n4 =>
    refine ⟨_, fun g => ?_, h.2⟩
    unfold fk_fv
    split
    · exact absurd rfl n0
    · exact absurd rfl n1
    · exact absurd rfl n2
    · exact absurd rfl n3
    · exact absurd rfl n4
    · cases hc : σ.2.2 c slot with
      | zero => exact absurd hc h.1
      | succ r => rfl
/-- a field of a cell as it is written -/
def fk_pf (slot t : Nat) (st : List Value) (σ : fkS) (P : Nat → Prop → Prop) (K : List Value → fkS → Prop) : Prop := match t with
  | 0 => fk_rI st fun c v r => P c (K r (sI σ c slot v))
  | 1 => fk_rI st fun c v r => P c (fk_bz v (K r (sI σ c slot v)))
  | 3 => fk_rL st fun c v r => P c (K r (sL σ c slot v))
  | 5 => fk_rR st fun c v r => P c (K r (sR σ c slot (v + 1)))
  | _ => False
def Qv (P : fkS → Prop) : Option Value → fkS → Prop := fun x σ => match x with
  | none => P σ
  | some _ => False
def Qi (P : Int32 → fkS → Prop) : Option Value → fkS → Prop := fun x σ => match x with
  | some (.int v) => P v σ
  | _ => False
def Qj (P : Int64 → fkS → Prop) : Option Value → fkS → Prop := fun x σ => match x with
  | some (.long v) => P v σ
  | _ => False
abbrev Cv (d j : Nat) (as : List Value) (σ : fkS) (P : fkS → Prop) : Prop := Cl d j as σ (Qv P)
abbrev Ci (d j : Nat) (as : List Value) (σ : fkS) (P : Int32 → fkS → Prop) : Prop := Cl d j as σ (Qi P)
abbrev Cj (d j : Nat) (as : List Value) (σ : fkS) (P : Int64 → fkS → Prop) : Prop := Cl d j as σ (Qj P)
/-- the state σ' with the references of σ -/
def sW (σ' σ : fkS) : fkS := (σ'.1, σ'.2.1, σ.2.2)
theorem sW_eq {σ' σ : fkS} (h : σ'.2.2 = σ.2.2) : sW σ' σ = σ' := by
  unfold sW
  rw [← h]
/-- contracts of methods that change no reference -/
abbrev Dv (d j : Nat) (as : List Value) (σ : fkS) (P : fkS → Prop) : Prop := Cl d j as σ (Qv (fun σ' => σ'.2.2 = σ.2.2 ∧ P σ'))
abbrev Di (d j : Nat) (as : List Value) (σ : fkS) (P : Int32 → fkS → Prop) : Prop := Cl d j as σ (Qi (fun x σ' => σ'.2.2 = σ.2.2 ∧ P x σ'))
abbrev Dj (d j : Nat) (as : List Value) (σ : fkS) (P : Int64 → fkS → Prop) : Prop := Cl d j as σ (Qj (fun x σ' => σ'.2.2 = σ.2.2 ∧ P x σ'))
/-- a call: what it gives (0 nothing, 1 an int, 2 a long; and 3 more: no reference changes) -/
def fk_call (d j : Nat) (as : List Value) (σ : fkS) (rt : Nat) (K : List Value → fkS → Prop) : Prop := match rt with
  | 0 => Cv d j as σ (fun σ' => K [] σ')
  | 1 => Ci d j as σ (fun x σ' => K [.int x] σ')
  | 2 => Cj d j as σ (fun x σ' => K [.long x] σ')
  | 3 => Dv d j as σ (fun σ' => K [] (sW σ' σ))
  | 4 => Di d j as σ (fun x σ' => K [.int x] (sW σ' σ))
  | _ => Dj d j as σ (fun x σ' => K [.long x] (sW σ' σ))
theorem Qv_s {P : fkS → Prop} {x : Option Value} {σ : fkS} (h : Qv P x σ) : x = none ∧ P σ := by
  unfold Qv at h
  split at h
  · exact ⟨rfl, h⟩
  · exact h.elim
theorem Qi_s {P : Int32 → fkS → Prop} {x : Option Value} {σ : fkS} (h : Qi P x σ) : ∃ v, x = some (.int v) ∧ P v σ := by
  unfold Qi at h
  split at h
  · exact ⟨_, rfl, h⟩
  · exact h.elim
theorem Qj_s {P : Int64 → fkS → Prop} {x : Option Value} {σ : fkS} (h : Qj P x σ) : ∃ v, x = some (.long v) ∧ P v σ := by
  unfold Qj at h
  split at h
  · exact ⟨_, rfl, h⟩
  · exact h.elim
theorem fk_call_s {d j as σ rt K} (h : fk_call d j as σ rt K) : ∃ Q', Cl d j as σ Q' ∧ ∀ x σ', Q' x σ' → K x.toList σ' := by
  unfold fk_call at h
  split at h
  · exact ⟨_, h, fun x σ' hx => by obtain ⟨rfl, hx⟩ := Qv_s hx; exact hx⟩
  · exact ⟨_, h, fun x σ' hx => by obtain ⟨v, rfl, hx⟩ := Qi_s hx; exact hx⟩
  · exact ⟨_, h, fun x σ' hx => by obtain ⟨v, rfl, hx⟩ := Qj_s hx; exact hx⟩
  · exact ⟨_, h, fun x σ' hx => by obtain ⟨rfl, e, hx⟩ := Qv_s hx; rw [sW_eq e] at hx; exact hx⟩
  · exact ⟨_, h, fun x σ' hx => by obtain ⟨v, rfl, e, hx⟩ := Qi_s hx; rw [sW_eq e] at hx; exact hx⟩
  · exact ⟨_, h, fun x σ' hx => by obtain ⟨v, rfl, e, hx⟩ := Qj_s hx; rw [sW_eq e] at hx; exact hx⟩
def fk_cs (st : List Value) : Nat := (st.map fun v => Value.category v).sum
/-- deep enough for one more call -/
def fk_dp (d : Nat) (K : Nat → Prop) : Prop := match d with
  | 0 => False
  | d + 1 => K d
theorem fk_dp_s {d K} (h : fk_dp d K) : ∃ e, d = e + 1 ∧ K e := by
  cases d with
  | zero => exact h.elim
  | succ e => exact ⟨e, rfl, h⟩
abbrev fk_a (it : fkI) (i : Nat) : Nat := it.2.2.getD i 0
def fk_ret (rt : Option FieldType) (x : Int32) (P : Prop) : Prop := match rt with
  | some .int => P
  | some .boolean => fk_bz x P
  | some .char => narrow .char (.int x) = .int x ∧ P
  | some .byte => narrow .byte (.int x) = .int x ∧ P
  | _ => False
def fk_copy (a b t : Nat) (sp dp n : Int32) (σ : fkS) (K : fkS → Prop) : Prop := fk_arr a t fun n0 => fk_arr b t fun n1 =>
  ¬ sp < 0 ∧ ¬ dp < 0 ∧ ¬ n < 0 ∧ sp.toNatClampNeg + n.toNatClampNeg ≤ n0 ∧ dp.toNatClampNeg + n.toNatClampNeg ≤ n1 ∧
    match t with
    | 0 => K (sAI σ b (va_cpy (σ.1 a) (σ.1 b) sp.toNatClampNeg dp.toNatClampNeg n.toNatClampNeg))
    | 1 => K (sAL σ b (va_cpy (σ.2.1 a) (σ.2.1 b) sp.toNatClampNeg dp.toNatClampNeg n.toNatClampNeg))
    | 2 => (∀ i, i < n.toNatClampNeg → fits .byte (.int (σ.1 a (sp.toNatClampNeg + i))) = true) ∧ K (sAI σ b (va_cpy (σ.1 a) (σ.1 b) sp.toNatClampNeg dp.toNatClampNeg n.toNatClampNeg))
    | _ => False
def fk_static (d : Nat) (it : fkI) (st : List Value) (σ : fkS) (K : List Value → fkS → Prop) : Prop := match fk_a it 0 with
  | 1000 => fk_cp st fun a sp b dp n r => cond (Nat.ble (fk_cs r) 8) (fk_dp d fun _ => fk_copy a b (fk_a it 1) sp dp n σ (fun σ' => K r σ')) False
  | 1001 => fk_p2 st fun x y r => cond (Nat.ble (fk_cs r) 8) (fk_dp d fun _ => K (.int (if x < y then y else x) :: r) σ) False
  | 1002 => fk_p2 st fun x y r => cond (Nat.ble (fk_cs r) 8) (fk_dp d fun _ => K (.int (if y < x then y else x) :: r) σ) False
  | 1003 => fk_l2 st fun x y r => cond (Nat.ble (fk_cs r) 8) (fk_dp d fun _ => K (.long (if y < x then y else x) :: r) σ) False
  | j => cond (Nat.beq (st.take (fk_a it 1)).length (fk_a it 1) && Nat.ble (fk_cs (st.drop (fk_a it 1))) 8) (fk_dp d fun e => fk_call e j (st.take (fk_a it 1)).reverse σ (fk_a it 4) (fun x σ' => K (x ++ st.drop (fk_a it 1)) σ')) False
def fk_virt (d : Nat) (it : fkI) (st : List Value) (σ : fkS) (K : List Value → fkS → Prop) : Prop :=
  fk_r1 (st.drop (fk_a it 1)) fun c r => fk_obj c (fk_a it 5) (cond (Nat.beq (st.take (fk_a it 1)).length (fk_a it 1) && Nat.ble (fk_cs r) 8) (fk_dp d fun e => fk_call e (fk_a it 0) (.ref c :: (st.take (fk_a it 1)).reverse) σ (fk_a it 4) (fun x σ' => K (x ++ r) σ')) False)
def fk_len (it : fkI) : Nat := match it.1 with
  | .bipush _ => 2
  | .sipush _ => 3
  | .ldc _ => 2
  | .ldc_w _ => 3
  | .ldc2_w _ => 3
  | .iload _ => 2
  | .lload _ => 2
  | .aload _ => 2
  | .istore _ => 2
  | .lstore _ => 2
  | .astore _ => 2
  | .iinc _ _ => 3
  | .ifCond _ _ => 3
  | .if_icmp _ _ => 3
  | .goto _ => 3
  | .getfield _ => 3
  | .putfield _ => 3
  | .getstatic _ => 3
  | .invokevirtual _ => 3
  | .invokestatic _ => 3
  | .tableswitch _ _ _ _ => it.2.1
  | .lookupswitch _ _ => it.2.1
  | _ => 1
def fk_br (c : ClassFile.Cond) (x y : Int32) (A B : Prop) : Prop := match c with
  | .eq => (x = y → A) ∧ (¬ x = y → B)
  | .ne => (¬ x = y → A) ∧ (x = y → B)
  | .lt => (x < y → A) ∧ (¬ x < y → B)
  | .ge => (y ≤ x → A) ∧ (¬ y ≤ x → B)
  | .gt => (y < x → A) ∧ (¬ y < x → B)
  | .le => (x ≤ y → A) ∧ (¬ x ≤ y → B)
/-- the row, cell by cell -/
def fk_fc {α : Type} : List α → (List α → Prop) → Prop
  | [], K => K []
  | v :: t, K => fk_fc t (fun u => K (v :: u))
theorem fk_fc_eq {α : Type} : ∀ (l : List α) (K : List α → Prop), fk_fc l K = K l
  | [], _ => rfl
  | _ :: t, _ => by rw [fk_fc, fk_fc_eq t]
def fk_step (k d : Nat) (it : fkI) (pc : Nat) (ls : List (Option Value)) (st : List Value) (σ : fkS) (Q : Option Value → fkS → Prop) (N J : fkK) : Prop := match it.1 with
  | .iconst n => N (pc + 1) ls (.int (Int32.ofInt n) :: st) σ
  | .bipush n => N (pc + 2) ls (.int (Int32.ofInt n) :: st) σ
  | .sipush n => N (pc + 3) ls (.int (Int32.ofInt n) :: st) σ
  | .lconst n => N (pc + 1) ls (.long (Int64.ofNat (n : Nat)) :: st) σ
  | .ldc _ => N (pc + 2) ls (.int (Int32.ofNat (fk_a it 0)) :: st) σ
  | .ldc_w _ => N (pc + 3) ls (.int (Int32.ofNat (fk_a it 0)) :: st) σ
  | .ldc2_w _ => N (pc + 3) ls (.long (Int64.ofNat (fk_a it 0)) :: st) σ
  | .iload i => fk_lI ls i fun x => N (pc + 2) ls (.int x :: st) σ
  | .iload_n i => fk_lI ls i fun x => N (pc + 1) ls (.int x :: st) σ
  | .lload i => fk_lL ls i fun x => N (pc + 2) ls (.long x :: st) σ
  | .lload_n i => fk_lL ls i fun x => N (pc + 1) ls (.long x :: st) σ
  | .aload i => fk_lR ls i fun x => N (pc + 2) ls (.ref x :: st) σ
  | .aload_n i => fk_lR ls i fun x => N (pc + 1) ls (.ref x :: st) σ
  | .istore i => fk_p1 st fun x r => fk_fc (fk_st1 ls i (.int x)) fun ls' => N (pc + 2) ls' r σ
  | .istore_n i => fk_p1 st fun x r => fk_fc (fk_st1 ls i (.int x)) fun ls' => N (pc + 1) ls' r σ
  | .lstore i => fk_l1 st fun x r => fk_fc (fk_st2 ls i (.long x)) fun ls' => N (pc + 2) ls' r σ
  | .lstore_n i => fk_l1 st fun x r => fk_fc (fk_st2 ls i (.long x)) fun ls' => N (pc + 1) ls' r σ
  | .astore i => fk_r1 st fun x r => fk_fc (fk_st1 ls i (.ref x)) fun ls' => N (pc + 2) ls' r σ
  | .astore_n i => fk_r1 st fun x r => fk_fc (fk_st1 ls i (.ref x)) fun ls' => N (pc + 1) ls' r σ
  | .iinc i n => fk_lI ls i fun x => fk_fc (fk_st1 ls i (.int (x + Int32.ofInt n))) fun ls' => N (pc + 3) ls' st σ
  | .iadd => fk_p2 st fun x y r => N (pc + 1) ls (.int (x + y) :: r) σ
  | .isub => fk_p2 st fun x y r => N (pc + 1) ls (.int (x - y) :: r) σ
  | .imul => fk_p2 st fun x y r => N (pc + 1) ls (.int (x * y) :: r) σ
  | .iand => fk_p2 st fun x y r => N (pc + 1) ls (.int (x &&& y) :: r) σ
  | .ior => fk_p2 st fun x y r => N (pc + 1) ls (.int (x ||| y) :: r) σ
  | .ixor => fk_p2 st fun x y r => N (pc + 1) ls (.int (x ^^^ y) :: r) σ
  | .ishl => fk_p2 st fun x y r => N (pc + 1) ls (.int (x <<< (y &&& 31)) :: r) σ
  | .ishr => fk_p2 st fun x y r => N (pc + 1) ls (.int (x >>> (y &&& 31)) :: r) σ
  | .iushr => fk_p2 st fun x y r => N (pc + 1) ls (.int (fk_ushr x y) :: r) σ
  | .idiv => fk_p2 st fun x y r => ¬ y = 0 ∧ N (pc + 1) ls (.int (x / y) :: r) σ
  | .irem => fk_p2 st fun x y r => ¬ y = 0 ∧ N (pc + 1) ls (.int (x - x / y * y) :: r) σ
  | .ineg => fk_p1 st fun x r => N (pc + 1) ls (.int (-x) :: r) σ
  | .ladd => fk_l2 st fun x y r => N (pc + 1) ls (.long (x + y) :: r) σ
  | .lsub => fk_l2 st fun x y r => N (pc + 1) ls (.long (x - y) :: r) σ
  | .lmul => fk_l2 st fun x y r => N (pc + 1) ls (.long (x * y) :: r) σ
  | .land => fk_l2 st fun x y r => N (pc + 1) ls (.long (x &&& y) :: r) σ
  | .lor => fk_l2 st fun x y r => N (pc + 1) ls (.long (x ||| y) :: r) σ
  | .lxor => fk_l2 st fun x y r => N (pc + 1) ls (.long (x ^^^ y) :: r) σ
  | .ldiv => fk_l2 st fun x y r => ¬ y = 0 ∧ N (pc + 1) ls (.long (x / y) :: r) σ
  | .lrem => fk_l2 st fun x y r => ¬ y = 0 ∧ N (pc + 1) ls (.long (x - x / y * y) :: r) σ
  | .lneg => fk_l1 st fun x r => N (pc + 1) ls (.long (-x) :: r) σ
  | .lcmp => fk_l2 st fun x y r => N (pc + 1) ls (.int (lg_cmp x y) :: r) σ
  | .lshl => fk_li st fun x y r => N (pc + 1) ls (.long (fk_lshl x y) :: r) σ
  | .lshr => fk_li st fun x y r => N (pc + 1) ls (.long (fk_lshr x y) :: r) σ
  | .lushr => fk_li st fun x y r => N (pc + 1) ls (.long (fk_lushr x y) :: r) σ
  | .i2l => fk_p1 st fun x r => N (pc + 1) ls (.long x.toInt64 :: r) σ
  | .l2i => fk_l1 st fun x r => N (pc + 1) ls (.int x.toInt32 :: r) σ
  | .i2b => fk_p1 st fun x r => N (pc + 1) ls (.int x.toInt8.toInt32 :: r) σ
  | .i2c => fk_p1 st fun x r => N (pc + 1) ls (.int (fk_i2c x) :: r) σ
  | .dup => fk_v1 st fun v r => cond (Nat.beq (Value.category v) 1) (N (pc + 1) ls (v :: v :: r) σ) False
  | .pop => fk_v1 st fun v r => cond (Nat.beq (Value.category v) 1) (N (pc + 1) ls r σ) False
  | .pop2 => fk_v1 st fun v r => cond (Nat.beq (Value.category v) 2) (N (pc + 1) ls r σ) False
  | .dup2 => fk_v2 st fun v u r => cond (Nat.beq (Value.category v) 1 && Nat.beq (Value.category u) 1) (N (pc + 1) ls (v :: u :: v :: u :: r) σ) False
  | .dup_x1 => fk_v2 st fun v u r => cond (Nat.beq (Value.category v) 1 && Nat.beq (Value.category u) 1) (N (pc + 1) ls (v :: u :: v :: r) σ) False
  | .ifCond c _ => fk_p1 st fun x r => fk_br c x 0 (J (fk_a it 0) ls r σ) (N (pc + 3) ls r σ)
  | .if_icmp c _ => fk_p2 st fun x y r => fk_br c x y (J (fk_a it 0) ls r σ) (N (pc + 3) ls r σ)
  | .goto _ => J (fk_a it 0) ls st σ
  | .tableswitch _ lo hi _ => fk_p1 st fun x r => ((x.toInt < lo ∨ hi < x.toInt) → J (fk_a it 0) ls r σ) ∧ fk_tsw x.toInt lo (it.2.2.drop 1) (fun t => J t ls r σ)
  | .lookupswitch _ ps => fk_p1 st fun x r => fk_lsw x.toInt (fk_a it 0) ((ps.toList.map (·.1)).zip (it.2.2.drop 1)) (fun t => J t ls r σ)
  | .getfield _ => fk_r1 st fun c r => fk_obj c (fk_a it 0) (fk_gf c (fk_a it 1) ((fk_tg.getD (fk_a it 0) []).getD (fk_a it 1) 9) σ fun v => N (pc + 3) ls (v :: r) σ)
  | .putfield _ => fk_pf (fk_a it 1) ((fk_tg.getD (fk_a it 0) []).getD (fk_a it 1) 9) st σ (fun c P => fk_obj c (fk_a it 0) P) (fun r σ' => N (pc + 3) ls r σ')
  | .getstatic _ => N (pc + 3) ls (.ref 1000 :: st) σ
  | .iaload => fk_ri st fun c i r => cond (Nat.beq c 1000) (vp_in i 8 ∧ N (pc + 1) ls (.int (fk_hd i.toNatClampNeg) :: r) σ) (fk_arr c 0 fun n => vp_in i n ∧ N (pc + 1) ls (.int (σ.1 c i.toNatClampNeg) :: r) σ)
  | .laload => fk_ri st fun c i r => fk_arr c 1 fun n => vp_in i n ∧ N (pc + 1) ls (.long (σ.2.1 c i.toNatClampNeg) :: r) σ
  | .baload => fk_ri st fun c i r => fk_arb c fun _ n => vp_in i n ∧ N (pc + 1) ls (.int (σ.1 c i.toNatClampNeg) :: r) σ
  | .iastore => fk_rii st fun c i v r => fk_arr c 0 fun n => vp_in i n ∧ N (pc + 1) ls r (sI σ c i.toNatClampNeg v)
  | .lastore => fk_ril st fun c i v r => fk_arr c 1 fun n => vp_in i n ∧ N (pc + 1) ls r (sL σ c i.toNatClampNeg v)
  | .bastore => fk_rii st fun c i v r => fk_arb c fun b n => vp_in i n ∧ cond b (N (pc + 1) ls r (sI σ c i.toNatClampNeg v.toInt8.toInt32)) (fk_bz v (N (pc + 1) ls r (sI σ c i.toNatClampNeg v)))
  | .arraylength => fk_r1 st fun c r => cond (Nat.beq c 1000) (N (pc + 1) ls (.int 8 :: r) σ) (fk_alen c fun n => N (pc + 1) ls (.int (Int32.ofNat n) :: r) σ)
  | .ireturn => fk_e1 st fun x => fk_ret (fk_M k).2.2.2 x (Q (some (.int x)) σ)
  | .lreturn => fk_el st fun x => Q (some (.long x)) σ
  | .return_ => fk_en0 st (Q none σ)
  | .invokevirtual _ => fk_virt d it st σ fun st' σ' => N (pc + 3) ls st' σ'
  | .invokestatic _ => fk_static d it st σ fun st' σ' => N (pc + 3) ls st' σ'
  | _ => False
abbrev fk_own (k : Nat) : String := (fk_M k).1.cls
def fk_chk (k pc : Nat) (it : fkI) : Bool := match it.1 with
  | .bipush n => decide ((Int8.ofInt n).toInt32 = Int32.ofInt n)
  | .sipush n => decide ((Int16.ofInt n).toInt32 = Int32.ofInt n)
  | .ldc i => decide (lw_tbl[fk_a it 1]? = some (.constant (fk_own k) i (Int32.ofNat (fk_a it 0))))
  | .ldc_w i => decide (lw_tbl[fk_a it 1]? = some (.constant (fk_own k) i (Int32.ofNat (fk_a it 0))))
  | .ldc2_w i => decide (lw_tbl[fk_a it 1]? = some (.constantLong (fk_own k) i (Int64.ofNat (fk_a it 0))))
  | .istore i => Nat.blt i (fk_M k).2.2.1
  | .istore_n i => Nat.blt i (fk_M k).2.2.1
  | .lstore i => Nat.blt (i + 1) (fk_M k).2.2.1
  | .lstore_n i => Nat.blt (i + 1) (fk_M k).2.2.1
  | .astore i => Nat.blt i (fk_M k).2.2.1
  | .astore_n i => Nat.blt i (fk_M k).2.2.1
  | .iinc i _ => Nat.blt i (fk_M k).2.2.1
  | .ifCond _ off => decide ((pc : Int) + off = (fk_a it 0 : Int))
  | .if_icmp _ off => decide ((pc : Int) + off = (fk_a it 0 : Int))
  | .goto off => decide ((pc : Int) + off = (fk_a it 0 : Int))
  | .tableswitch dflt lo hi offs => decide ((pc : Int) + dflt = (fk_a it 0 : Int)) && decide (offs.toList.map (fun o => (pc : Int) + o) = (it.2.2.drop 1).map (fun t : Nat => (t : Int))) && decide (hi - lo + 1 = (it.2.2.drop 1).length)
  | .lookupswitch dflt ps => (ps.toList.zip (ps.toList.drop 1)).all (fun (a, next) => a.1 < next.1) && decide ((pc : Int) + dflt = (fk_a it 0 : Int)) && decide (ps.toList.map (fun o => (o.1, (pc : Int) + o.2)) = ((ps.toList.map (·.1)).zip (it.2.2.drop 1)).map (fun t : Int × Nat => (t.1, (t.2 : Int))))
  | .getfield i => match fk_cls[fk_a it 0]? with
    | some q => Nat.blt (fk_a it 1) q.2.2 && cond (Nat.beq (fk_a it 3) 0) (decide (lw_tbl[fk_a it 2]? = some (.fieldLink (fk_own k) i (q.2.1 (fk_a it 1)).1 (q.2.1 (fk_a it 1)).2.1 (q.2.1 (fk_a it 1)).2.2.1))) (decide (lw_tbl[fk_a it 2]? = some (.fieldLinkNest (fk_own k) i (q.2.1 (fk_a it 1)).1 (q.2.1 (fk_a it 1)).2.1 (q.2.1 (fk_a it 1)).2.2.1 "FoldForge")))
    | none => false
  | .putfield i => match fk_cls[fk_a it 0]? with
    | some q => Nat.blt (fk_a it 1) q.2.2 && decide ((q.2.1 (fk_a it 1)).2.2.2 = false) && cond (Nat.beq (fk_a it 3) 0) (decide (lw_tbl[fk_a it 2]? = some (.fieldLink (fk_own k) i (q.2.1 (fk_a it 1)).1 (q.2.1 (fk_a it 1)).2.1 (q.2.1 (fk_a it 1)).2.2.1))) (decide (lw_tbl[fk_a it 2]? = some (.fieldLinkNest (fk_own k) i (q.2.1 (fk_a it 1)).1 (q.2.1 (fk_a it 1)).2.1 (q.2.1 (fk_a it 1)).2.2.1 "FoldForge")))
    | none => false
  | .getstatic i => decide (lw_tbl[fk_a it 0]? = some (.fieldLink (fk_own k) i "FoldForge$ModuleReader" "HEADER" "[I"))
  | .lreturn => decide ((fk_M k).2.2.2 = some .long)
  | .return_ => decide ((fk_M k).2.2.2 = none)
  | .invokevirtual i => decide ((fk_a it 0, fk_a it 5, fk_a it 1) ∈ fk_Il) && cond (Nat.beq (fk_a it 3) 0) (decide (lw_tbl[fk_a it 2]? = some (.methodLink (fk_own k) i (fk_M (fk_a it 0)).1))) (decide (lw_tbl[fk_a it 2]? = some (.methodLinkNest (fk_own k) i (fk_M (fk_a it 0)).1 "FoldForge")))
  | .invokestatic i => match fk_a it 0 with
    | 1000 => decide (lw_tbl[fk_a it 2]? = some (.methodLink (fk_own k) i arraycopyName))
    | 1001 => decide (lw_tbl[fk_a it 2]? = some (.methodLink (fk_own k) i Lib.Math.max.name))
    | 1002 => decide (lw_tbl[fk_a it 2]? = some (.methodLink (fk_own k) i Lib.Math.min.name))
    | 1003 => decide (lw_tbl[fk_a it 2]? = some (.methodLink (fk_own k) i Lib.MathLoose.min_long.x))
    | j => decide ((j, fk_a it 1) ∈ fk_Sl) && cond (Nat.beq (fk_a it 3) 0) (decide (lw_tbl[fk_a it 2]? = some (.methodLink (fk_own k) i (fk_M j).1))) (decide (lw_tbl[fk_a it 2]? = some (.methodLinkNest (fk_own k) i (fk_M j).1 "FoldForge")))
  | _ => true
def fk_ok0 (k pc : Nat) (it : fkI) : Bool := decide (decode (fk_M k).2.1 pc = .ok (it.1, fk_len it)) && fk_chk k pc it
/-! what is done with String constants: the seventh number of an item (1 ldc, 2 value, 3 coder, 4 COMPACT_STRINGS, 5 the formatter, 6 length, 7 a byte, 8 a call) -/
def fk_sk (it : fkI) : Nat := match it.1 with
  | .tableswitch _ _ _ _ => 0
  | .lookupswitch _ _ => 0
  | _ => fk_a it 6
def fk_rg (c b : Nat) (P : Prop) : Prop := (b ≤ c ∧ c < b + fk_nL) ∧ P
def fk_virtS (d : Nat) (it : fkI) (st : List Value) (σ : fkS) (K : List Value → fkS → Prop) : Prop :=
  fk_r1 (st.drop (fk_a it 1)) fun c r => fk_rg c 2000 (cond (Nat.beq (st.take (fk_a it 1)).length (fk_a it 1) && Nat.ble (fk_cs r) 8) (fk_dp d fun e => fk_call e (fk_a it 0) (.ref c :: (st.take (fk_a it 1)).reverse) σ (fk_a it 4) (fun x σ' => K (x ++ r) σ')) False)
def fk_stepS (d : Nat) (it : fkI) (pc : Nat) (ls : List (Option Value)) (st : List Value) (σ : fkS) (N : fkK) : Prop := match fk_a it 6 with
  | 1 => N (pc + fk_len it) ls (.ref (2000 + fk_a it 0) :: st) σ
  | 2 => fk_r1 st fun c r => fk_rg c 2000 (N (pc + fk_len it) ls (.ref (c + 1000) :: r) σ)
  | 3 => fk_r1 st fun c r => fk_rg c 2000 (N (pc + fk_len it) ls (.int 0 :: r) σ)
  | 4 => N (pc + fk_len it) ls (.int 1 :: st) σ
  | 5 => N (pc + fk_len it) ls (.null :: st) σ
  | 6 => fk_r1 st fun c r => fk_rg c 3000 (N (pc + fk_len it) ls (.int (Int32.ofNat (fk_ln (c - 3000))) :: r) σ)
  | 7 => fk_ri st fun c i r => fk_rg c 3000 (vp_in i (fk_ln (c - 3000)) ∧ N (pc + fk_len it) ls (.int ((fk_bt (c - 3000)).getD i.toNatClampNeg 0) :: r) σ)
  | 8 => fk_virtS d it st σ fun st' σ' => N (pc + fk_len it) ls st' σ'
  | _ => False
def fk_lk (k i l : Nat) : Bool := match fk_lits[l]? with
  | some q => decide (q.1 = fk_own k) && Nat.beq q.2.1 i
  | none => false
def fk_chkS (k : Nat) (it : fkI) : Bool := match it.1, fk_a it 6 with
  | .ldc i, 1 => fk_lk k i (fk_a it 0)
  | .ldc_w i, 1 => fk_lk k i (fk_a it 0)
  | .getfield i, 2 => decide (lw_tbl[fk_a it 0]? = some (.fieldLink (fk_own k) i "java/lang/String" "value" "[B"))
  | .getfield i, 3 => decide (lw_tbl[fk_a it 0]? = some (.fieldLink (fk_own k) i "java/lang/String" "coder" "B"))
  | .getstatic i, 4 => decide (lw_tbl[fk_a it 0]? = some (.fieldLink (fk_own k) i "java/lang/String" "COMPACT_STRINGS" "Z"))
  | .getstatic i, 5 => decide (lw_tbl[fk_a it 0]? = some (.fieldLink (fk_own k) i "jdk/internal/util/Preconditions" "SIOOBE_FORMATTER" "Ljava/util/function/BiFunction;"))
  | .arraylength, 6 => true
  | .baload, 7 => true
  | .invokevirtual i, 8 => decide ((fk_a it 0, fk_a it 1) ∈ fk_Jl) && decide (lw_tbl[fk_a it 2]? = some (.methodLink (fk_own k) i (fk_M (fk_a it 0)).1))
  | _, _ => false
def fk_stp (k d : Nat) (it : fkI) (pc : Nat) (ls : List (Option Value)) (st : List Value) (σ : fkS) (Q : Option Value → fkS → Prop) (N J : fkK) : Prop := match fk_sk it with
  | 0 => fk_step k d it pc ls st σ Q N J
  | _ + 1 => fk_stepS d it pc ls st σ N
def fk_ok (k pc : Nat) (it : fkI) : Bool := decide (decode (fk_M k).2.1 pc = .ok (it.1, fk_len it)) && (match fk_sk it with
  | 0 => fk_chk k pc it
  | _ + 1 => fk_chkS k it)
