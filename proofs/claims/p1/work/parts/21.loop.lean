/-! THE LAW'S LOOP AND ITS BEGINNING -/
section LAWL
variable {p : Program} {l : Launch} {e : Env} {s : State} {m : MethodId} {below : List Frame} {meth : Method} {c : Code} {b L B : Nat} {xs : Nat → Int32}
set_option maxRecDepth 100000 in
theorem law_switch {i : Nat} {g : fkG} {σ : fkS} {J : fkS → Prop} (hL : L ≤ 3072) (C0 : LC p s m meth c b L B xs) (G0 : Gok s B g) (hi : i + 6 ≤ L) (hO : OPS J σ) (hd : J σ) (hJ : ∀ σ2, J σ2 → LW p l e s m below meth c b B i g σ2 518 []) (x : Int32) : LW p l e s m below meth c b B i g σ 33 [.int x] := by
  have hT : fk_tsw x.toInt 0 [104, 167, 190, 203, 226, 259, 322, 355, 379, 403, 426, 449, 472, 495] (fun t => LW p l e s m below meth c b B i g σ t []) := by
    refine ⟨fun _ => ?_, fun _ => ?_, fun _ => ?_, fun _ => ?_, fun _ => ?_, fun _ => ?_, fun _ => ?_, fun _ => ?_, fun _ => ?_, fun _ => ?_, fun _ => ?_, fun _ => ?_, fun _ => ?_, fun _ => ?_, trivial⟩
    · exact law_feed hL C0 G0 hi hO hJ
    · exact law_module hL C0 G0 hi hO hJ
    · exact law_place hL C0 G0 hi hO hJ
    · exact law_count hL C0 G0 hi hO hJ
    · exact law_export hL C0 G0 hi hO hJ
    · exact law_argument hL C0 G0 hi hO hJ
    · exact law_run hL C0 G0 hi hO hJ
    · exact law_outcome hL C0 G0 hi hO hJ
    · exact law_global hL C0 G0 hi hO hJ
    · exact law_memory hL C0 G0 hi hO hJ
    · exact law_table hL C0 G0 hi hO hJ
    · exact law_program hL C0 G0 hi hO hJ
    · exact law_call hL C0 G0 hi hO hJ
    · exact law_spent hL C0 G0 hi hO hJ
  intro H locs lsM hP hS hl
  have hdec : decode code 33 = .ok (.tableswitch 485 0 13 #[71, 134, 157, 170, 193, 226, 289, 322, 346, 370, 393, 416, 439, 462], 71) := by decide +kernel
  by_cases h1 : x.toInt < 0
  · exact lv_tableOut C0.1.1 C0.1.2.1 hdec (Or.inl h1) (tgt := 518) rfl (hJ _ hd H locs lsM hP hS hl)
  by_cases h2 : 13 < x.toInt
  · exact lv_tableOut C0.1.1 C0.1.2.1 hdec (Or.inr h2) (tgt := 518) rfl (hJ _ hd H locs lsM hP hS hl)
  have hlt : (x.toInt - 0).toNat < 14 := by omega
  obtain ⟨t, ht⟩ : ∃ t, ([104, 167, 190, 203, 226, 259, 322, 355, 379, 403, 426, 449, 472, 495] : List Nat)[(x.toInt - 0).toNat]? = some t := ⟨_, List.getElem?_eq_getElem hlt⟩
  have hoffs : ([71, 134, 157, 170, 193, 226, 289, 322, 346, 370, 393, 416, 439, 462] : List Int).map (fun o => (33 : Int) + o) = ([104, 167, 190, 203, 226, 259, 322, 355, 379, 403, 426, 449, 472, 495] : List Nat).map (fun t : Nat => (t : Int)) := by decide
  have e1 : (([71, 134, 157, 170, 193, 226, 289, 322, 346, 370, 393, 416, 439, 462] : List Int).map (fun o => (33 : Int) + o))[(x.toInt - 0).toNat]? = some (t : Int) := by rw [hoffs, List.getElem?_map, ht]; rfl
  rw [List.getElem?_map] at e1
  cases ho : ([71, 134, 157, 170, 193, 226, 289, 322, 346, 370, 393, 416, 439, 462] : List Int)[(x.toInt - 0).toNat]? with
  | none => rw [ho] at e1; cases e1
  | some off =>
    rw [ho] at e1
    have e2 : (33 : Int) + off = (t : Int) := Option.some.inj e1
    have ho' : (#[71, 134, 157, 170, 193, 226, 289, 322, 346, 370, 393, 416, 439, 462] : Array Int)[(x.toInt - 0).toNat]? = some off := by rw [← Array.getElem?_toList]; exact ho
    exact lv_tableIn C0.1.1 C0.1.2.1 hdec h1 h2 ho' e2 (fk_tsw_get hT ht (by omega) H locs lsM hP hS hl)
theorem law_end {i : Nat} {g : fkG} {σ : fkS} (C0 : LC p s m meth c b L B xs) : LW p l e s m below meth c b B i g σ 524 [] := by
  intro H locs lsM hP hS hl
  obtain ⟨hx, hb, hr, hml, hown, hts, hX, hbl, hlocks, hgv⟩ := id C0.1
  refine lv_iconst (v := 1) hx hb (show decode code 524 = .ok (.iconst 1, 1) by decide +kernel) (by decide) ?_
  refine va_forget (fun q hq => ?_) ?_
  · rw [← C0.2]
    exact hS.2.2 q hq
  refine W.widen (k := 600000) (n := 7302250) (Nat.le_of_ble_eq_true rfl) (Nat.le_of_ble_eq_true rfl) ?_
  exact lw_ret hx hb hr hlocks (by decide +kernel)
theorem law_step {i : Nat} {g : fkG} {σ : fkS} (hi : i + 6 ≤ 4000) (C0 : LC p s m meth c b L B xs) (h : LW p l e s m below meth c b B (i + 6) g σ 18 []) : LW p l e s m below meth c b B i g σ 518 [] := by
  intro H locs lsM hP hS hl
  obtain ⟨hx, hb, hr, hml, hown, hts, hX, hbl, hlocks, hgv⟩ := id C0.1
  refine lv_iinc (v := nI (i + 6)) (lv' := [(3, .int (nI (i + 6))), (0, .ref b), (1, .ref B), (2, .ref (B + 103))]) hx hb (show decode code 518 = .ok (.iinc 3 6, 3) by decide +kernel) hl (k := 3) rfl (nI_add i 6) (by decide) rfl (fun ls hl2 => ?_)
  refine lv_goto (tgt := 18) hx hb (show decode code 521 = .ok (.goto (-503), 3) by decide +kernel) (by decide) ?_
  exact h H locs ls hP hS (lv_sub hl2 [1, 2, 3, 0] rfl)
theorem law_head {i : Nat} {g : fkG} {σ : fkS} (hL : L ≤ 3072) (hi : i ≤ 4000) (C0 : LC p s m meth c b L B xs) (hgo : i + 6 ≤ L → LW p l e s m below meth c b B i g σ 27 []) : LW p l e s m below meth c b B i g σ 18 [] := by
  intro H locs lsM hP hS hl
  obtain ⟨hx, hb, hr, hml, hown, hts, hX, hbl, hlocks, hgv⟩ := id C0.1
  refine lv_iload_n hx hb (show decode code 18 = .ok (.iload_n 3, 1) by decide +kernel) rfl (lv_at hl 3 rfl) ?_
  refine lv_aload_n hx hb (show decode code 19 = .ok (.aload_n 0, 1) by decide +kernel) rfl (lv_at hl 0 rfl) ?_
  refine va_slen (xs := xs) hx hb hX hbl (by rw [C0.2]; exact Nat.not_le.mpr hbl) hS (show decode code 20 = .ok (.arraylength, 1) by decide +kernel) ?_
  refine lv_bipush (v := 6) hx hb (show decode code 21 = .ok (.bipush 6, 2) by decide +kernel) (by decide) ?_
  refine lv_isub hx hb (show decode code 23 = .ok (.isub, 1) by decide +kernel) ?_
  have e1 : (Int32.ofNat L - 6).toInt = (L : Int) - 6 := pk_sub_toInt (a := L) (b := 6) (by omega) (by omega)
  refine lv_icmp_gt (tgt := 524) hx hb (show decode code 24 = .ok (.if_icmp .gt 500, 3) by decide +kernel) (by decide) (fun _ => law_end C0 H locs lsM hP hS hl) (fun hn => ?_)
  refine hgo ?_ H locs lsM hP hS hl
  rw [Int32.lt_iff_toInt_lt, e1, nI_toInt (by omega)] at hn
  omega
/-- the loop, for every invariant -/
theorem law_loop (hL : L ≤ 3072) (C0 : LC p s m meth c b L B xs) (Inv J : Nat → fkS → Prop) (hops : ∀ i σ, i + 6 ≤ L → Inv i σ → OPS (J (i + 6)) σ ∧ J (i + 6) σ)
    (hJ : ∀ i g σ, Gok s B g → J i σ → ∃ g2 σ2, Gok s B g2 ∧ Inv i σ2 ∧ ∀ H, va_P g.1 fk_cls (fk_ws σ g) H → va_P g2.1 fk_cls (fk_ws σ2 g2) H) :
    ∀ (n i : Nat) (g : fkG) (σ : fkS), i ≤ L + 6 → L + 6 - i < n → Gok s B g → Inv i σ → LW p l e s m below meth c b B i g σ 18 [] := by
  intro n
  induction n with
  | zero => intro i g σ _ h; exact absurd h (Nat.not_lt_zero _)
  | succ n ih =>
    intro i g σ hi hn G0 hI
    refine law_head hL (by omega) C0 (fun hgo => ?_)
    obtain ⟨hO, hd⟩ := hops i σ hgo hI
    refine lr_al (k := 0) C0 (show decode code 27 = .ok (.aload_n 0, 1) by decide +kernel) rfl ?_
    refine lr_il C0 (show decode code 28 = .ok (.iload_n 3, 1) by decide +kernel) ?_
    refine lr_ld C0 (by omega) hL (show decode code 29 = .ok (.iaload, 1) by decide +kernel) ?_
    refine lr_bp C0 15 (show decode code 30 = .ok (.bipush 15, 2) by decide +kernel) (by decide) ?_
    intro H locs lsM hP hS hl
    refine lv_iand C0.1.1 C0.1.2.1 (show decode code 32 = .ok (.iand, 1) by decide +kernel) ?_
    refine law_switch hL C0 G0 hgo hO hd (fun σ2 hj => ?_) _ H locs lsM hP hS hl
    refine law_step (by omega) C0 ?_
    obtain ⟨g2, σ3, G2, hI2, hW⟩ := hJ (i + 6) g σ2 G0 hj
    intro H locs lsM hP hS hl
    exact ih (i + 6) g2 σ3 (by omega) (by omega) G2 hI2 H locs lsM (hW H hP) hS hl
end LAWL

