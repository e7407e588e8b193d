/-! NUMBERS, the class: the INSTRUCTION -/
def sTr (c j : Nat) : Bool := sOp c j || (Nat.beq c 56 && Nat.beq j 15)
theorem sOp_tr {c j : Nat} (h : sOp c j = true) : sTr c j = true := by
  unfold sTr
  rw [h]
  rfl
def isU (op : Nat) : Prop := op = 69 ∨ op = 80 ∨ (103 ≤ op ∧ op ≤ 105) ∨ (121 ≤ op ∧ op ≤ 123) ∨ 167 ≤ op
section NUMX2
variable {d op : Nat} {σ : fkS} {A B : List Int64} {R : Nat × Int64} {Q : fkS → Prop}
theorem x_num (hn : isNum op) (h15 : σ.1 56 15 = 0) (hB : oX σ B) (hu : isU op → ∃ v, B = v :: A ∧ R = (0, xU op v)) (hb : ¬ isU op → ∃ b a, B = b :: a :: A ∧ R = xB op a b) (hQ : ∀ σ', σ'.2.2 = σ.2.2 → Fr sTr σ σ' → σ'.1 56 15 = nI R.1 → (R.1 = 0 → oX σ' (R.2 :: A)) → Q σ') : Dv (d + 3) 126 [.ref 56, .int (nI op)] σ Q := by
  have hop : op < 256 := by
    unfold isNum at hn
    omega
  have en : ∀ {c : Nat}, c < 2 ^ 31 → (nI op = nI c ↔ op = c) := fun hc => nI_eq (by omega) hc
  have el : ∀ {c : Nat}, c < 2 ^ 31 → (nI c < nI op ↔ c < op) := fun hc => nI_ltI hc (by omega)
  have hlA : A.length < 24000 := by
    have := hB.2.1
    by_cases z : isU op
    · obtain ⟨v, e, -⟩ := hu z
      rw [e, List.length_cons] at this
      omega
    · obtain ⟨b, a, e, -⟩ := hb z
      rw [e, List.length_cons, List.length_cons] at this
      omega
  have pushR : ∀ {dd : Nat} {σ1 : fkS} {r : Int64}, σ1.2.2 = σ.2.2 → Fr sTr σ σ1 → σ1.1 56 15 = nI R.1 → oX σ1 A → (R.1 = 0 → r = R.2) → Dv dd 106 [.ref 56, .long r] σ1 (fun σ3 => Qv (fun σ' => σ'.2.2 = σ.2.2 ∧ Q σ') none (sW σ3 σ)) := fun {dd σ1 r} e1 f1 e15 o1 hr => by
    refine x_push o1 hlA fun σ2 e2 f2 o2 => ?_
    rw [sW_eq (e2.trans e1)]
    refine ⟨e2.trans e1, hQ σ2 (e2.trans e1) (f1.tr (f2.mono fun _ _ => sOp_tr)) ((f2 _ _ rfl).1.trans e15) fun z => ?_⟩
    rw [← hr z]
    exact o2
  have un : ∀ {dd : Nat} {P : Int64 → fkS → Prop}, isU op → (∀ v σ1, R = (0, xU op v) → σ1.2.2 = σ.2.2 → Fr sTr σ σ1 → σ1.1 56 15 = nI R.1 → oX σ1 A → P v σ1) → Dj dd 111 [.ref 56] σ P := fun {dd P} z k => by
    obtain ⟨v, e, eR⟩ := hu z
    rw [e] at hB
    exact x_pop hB fun σ1 e1 f1 o1 => k v σ1 eR e1 (f1.mono fun _ _ => sOp_tr) (by rw [eR]; exact (f1 _ _ rfl).1.trans h15) o1
  have bi : ∀ {dd : Nat} {P : Int64 → fkS → Prop}, ¬ isU op → (∀ b a σ1, R = xB op a b → σ1.2.2 = σ.2.2 → Fr sTr σ σ1 → σ1.1 56 15 = 0 → oX σ1 (a :: A) → P b σ1) → Dj dd 111 [.ref 56] σ P := fun {dd P} z k => by
    obtain ⟨b, a, e, eR⟩ := hb z
    rw [e] at hB
    exact x_pop hB fun σ1 e1 f1 o1 => k b a σ1 eR e1 (f1.mono fun _ _ => sOp_tr) ((f1 _ _ rfl).1.trans h15) o1
  have eqz : ∀ {dd : Nat} {v : Int64} {σ1 : fkS}, (op = 69 ∨ op = 80) → R = (0, xU op v) → σ1.2.2 = σ.2.2 → Fr sTr σ σ1 → σ1.1 56 15 = nI R.1 → oX σ1 A → (¬ lg_cmp v (0 : Int64) = 0 → Dv dd 106 [.ref 56, .long (0 : Int64)] σ1 (fun σ3 => Qv (fun σ' => σ'.2.2 = σ.2.2 ∧ Q σ') none (sW σ3 σ))) ∧ (lg_cmp v (0 : Int64) = 0 → Dv dd 106 [.ref 56, .long (1 : Int64)] σ1 (fun σ3 => Qv (fun σ' => σ'.2.2 = σ.2.2 ∧ Q σ') none (sW σ3 σ))) := fun {dd v σ1} z eR e1 f1 e15 o1 => by
    have hx : xU op v = b2l (decide (v = 0)) := by
      unfold xU
      rw [if_pos z]
    rw [hx] at eR
    refine ⟨fun w => pushR e1 f1 e15 o1 fun _ => ?_, fun w => pushR e1 f1 e15 o1 fun _ => ?_⟩
    · rw [eR, decide_eq_false fun y => w (lg_eq.mpr y)]
      rfl
    · rw [eR, decide_eq_true (lg_eq.mp w)]
      rfl
  have cmpP : ∀ {dd k : Nat} {b a : Int64} {σ1 : fkS}, 1 ≤ k → k ≤ 10 → R = (0, b2l (cmpK k a b)) → σ1.2.2 = σ.2.2 → Fr sTr σ σ1 → σ1.1 56 15 = 0 → oX σ1 A → Di (dd + 1) 127 [.int (nI k), .long a, .long b] σ1 (fun x σ3 => (x = 0 → Dv (dd + 1) 106 [.ref 56, .long (0 : Int64)] (sW σ3 σ) (fun σ4 => Qv (fun σ' => σ'.2.2 = σ.2.2 ∧ Q σ') none (sW σ4 σ))) ∧ (¬ x = 0 → Dv (dd + 1) 106 [.ref 56, .long (1 : Int64)] (sW σ3 σ) (fun σ4 => Qv (fun σ' => σ'.2.2 = σ.2.2 ∧ Q σ') none (sW σ4 σ)))) := fun {dd k b a σ1} h1 h2 eR e1 f1 e15 o1 => by
    refine (c_compare a b h1 h2).mono fun x σ2 hx => ?_
    obtain ⟨r, rfl, e, rfl, rfl⟩ := Qi_s hx
    refine ⟨rfl, ?_⟩
    simp only [sW_eq e1]
    have e15' : σ2.1 56 15 = nI R.1 := by rw [eR]; exact e15
    refine ⟨fun w => pushR e1 f1 e15' o1 fun _ => ?_, fun w => pushR e1 f1 e15' o1 fun _ => ?_⟩
    · rw [eR, b2i_0.mp w]
      rfl
    · cases hh : cmpK k a b
      · rw [hh] at w
        exact absurd rfl w
      · rw [eR, hh]
        rfl
  have sb : ∀ {c : Nat}, c ≤ op → nI op - nI c = nI (op - c) := fun h => nI_sub h
  unfold isNum at hn
  refine S_Machine_number (d := d + 2) (Q := Qv _) ⟨fun z167 => ⟨fun z172 => ⟨fun z173 => ⟨fun z69 => un (.inl ((en (by decide)).mp z69)) fun v σ1 eR e1 f1 e15 o1 => ?_, fun z69 => ⟨fun z80 => ⟨fun g90 => ⟨fun g105 => ⟨fun g120 => ⟨fun g123 => ?_, fun g123 => ?_⟩, fun g120 => ?_⟩, fun g105 => ?_⟩, fun g90 => ?_⟩, fun z80 => un (.inr (.inl ((en (by decide)).mp z80))) fun v σ1 eR e1 f1 e15 o1 => ?_⟩⟩, fun z173 => un (by have := (en (c := 173) (by decide)).mp z173; unfold isU; omega) fun v σ1 eR e1 f1 e15 o1 => ?_⟩, fun z172 => un (by have := (en (c := 172) (by decide)).mp z172; unfold isU; omega) fun v σ1 eR e1 f1 e15 o1 => ?_⟩, fun z167 => un (by have := (en (c := 167) (by decide)).mp z167; unfold isU; omega) fun v σ1 eR e1 f1 e15 o1 => ?_⟩
  · simp only [sW_eq e1]
    exact eqz (.inl ((en (by decide)).mp z69)) eR e1 f1 e15 o1
  · -- 64 bits, two
    have g90 := (el (c := 90) (by decide)).mp g90
    have g105 := (el (c := 105) (by decide)).mp g105
    have g120 := (el (c := 120) (by decide)).mp g120
    have g123 := (el (c := 123) (by decide)).mp g123
    have n1 : op ≠ 167 := fun w => z167 ((en (by decide)).mpr w)
    have n2 : op ≠ 172 := fun w => z172 ((en (by decide)).mpr w)
    have n3 : op ≠ 173 := fun w => z173 ((en (by decide)).mpr w)
    refine bi (by unfold isU; omega) fun b a σ1 eR e1 f1 e15 o1 => ?_
    simp only [sW_eq e1]
    have hx : xB op a b = i64B (op - 121) a b := by
      unfold xB
      rw [if_neg (by omega), if_neg (by omega), if_neg (by omega)]
    rw [hx] at eR
    refine ⟨fun g130 => ?_, fun g130 => ?_⟩
    · have g130 := (el (c := 130) (by decide)).mp g130
      refine x_pop o1 fun σ2 e2 f2 o2 => ?_
      simp only [sW_eq (e2.trans e1)]
      rw [show (121 : Int32) = nI 121 from rfl, sb (by omega)]
      have f3 := f1.tr (f2.mono fun _ _ => sOp_tr)
      have t0 : (i64B (op - 121) a b).1 = 0 := by
        unfold i64B
        rw [if_neg (by omega), if_neg (by omega), if_neg (by omega), if_neg (by omega)]
      refine c_shift64 (by omega) (by omega) a b fun _ => ?_
      rw [sW_eq (e2.trans e1)]
      exact pushR (e2.trans e1) f3 ((f2 _ _ rfl).1.trans (by rw [eR, t0]; exact e15)) o2 fun _ => by rw [eR]
    · have g130 : ¬ 130 < op := fun w => g130 ((el (by decide)).mpr w)
      refine x_pop o1 fun σ2 e2 f2 o2 => ?_
      simp only [sW_eq (e2.trans e1)]
      rw [show (121 : Int32) = nI 121 from rfl, sb (by omega)]
      have f3 := f1.tr (f2.mono fun _ _ => sOp_tr)
      refine c_whole64 (by omega) (by omega) a b (fun t0 => ?_) fun t0 v => ?_
      · rw [sW_eq (e2.trans e1)]
        exact pushR (e2.trans e1) f3 ((f2 _ _ rfl).1.trans (by rw [eR, t0]; exact e15)) o2 fun _ => by rw [eR]
      · rw [sW_eq (show (sI σ2 56 15 (nI (i64B (op - 121) a b).1)).2.2 = σ.2.2 from e2.trans e1)]
        exact pushR (e2.trans e1) (f3.sI rfl) (by rw [sI_ss, eR]) (o2.fr (S := fun c j => Nat.beq c 56 && Nat.beq j 15) (Fr.sI Fr.rf rfl) rfl fun _ => rfl) fun z => absurd (by rw [eR] at z; exact z) t0
  · -- 64 bits, one
    have g105 := (el (c := 105) (by decide)).mp g105
    have g120 := (el (c := 120) (by decide)).mp g120
    have g123 : ¬ 123 < op := fun w => g123 ((el (by decide)).mpr w)
    refine un (by unfold isU; omega) fun v σ1 eR e1 f1 e15 o1 => ?_
    simp only [sW_eq e1]
    rw [show (121 : Int32) = nI 121 from rfl, sb (by omega)]
    refine c_bits64 (d := d + 1) (by omega) v ?_
    have hx : xU op v = lN (bitsN (op - 121) 64 (u8 v)) := by
      unfold xU
      rw [if_neg (by omega), if_neg (by omega), if_pos (by omega)]
      rfl
    have := bitsN_le (op - 121) 64 (u8 v)
    rw [sW_eq e1, nI_l (by omega), ← hx]
    exact pushR e1 f1 e15 o1 fun _ => by rw [eR]
  · -- 32 bits, two
    have g90 := (el (c := 90) (by decide)).mp g90
    have g105 := (el (c := 105) (by decide)).mp g105
    have g120 : ¬ 120 < op := fun w => g120 ((el (by decide)).mpr w)
    refine bi (by unfold isU; omega) fun b a σ1 eR e1 f1 e15 o1 => ?_
    simp only [sW_eq e1]
    have hx : xB op a b = ((i32B (op - 103) a.toInt32 b.toInt32).1, (i32B (op - 103) a.toInt32 b.toInt32).2.toInt64) := by
      unfold xB
      rw [if_neg (by omega), if_neg (by omega), if_pos (by omega)]
    rw [hx] at eR
    refine ⟨fun g112 => ?_, fun g112 => ?_⟩
    · have g112 := (el (c := 112) (by decide)).mp g112
      refine x_pop o1 fun σ2 e2 f2 o2 => ?_
      simp only [sW_eq (e2.trans e1)]
      rw [show (103 : Int32) = nI 103 from rfl, sb (by omega)]
      have f3 := f1.tr (f2.mono fun _ _ => sOp_tr)
      have t0 : (i32B (op - 103) a.toInt32 b.toInt32).1 = 0 := by
        unfold i32B
        rw [if_neg (by omega), if_neg (by omega), if_neg (by omega), if_neg (by omega)]
      refine c_shift32 (by omega) (by omega) a.toInt32 b.toInt32 fun _ => ?_
      rw [sW_eq (e2.trans e1)]
      exact pushR (e2.trans e1) f3 ((f2 _ _ rfl).1.trans (by rw [eR]; show _ = nI (i32B (op - 103) a.toInt32 b.toInt32).1; rw [t0]; exact e15)) o2 fun _ => by rw [eR]
    · have g112 : ¬ 112 < op := fun w => g112 ((el (by decide)).mpr w)
      refine x_pop o1 fun σ2 e2 f2 o2 => ?_
      simp only [sW_eq (e2.trans e1)]
      rw [show (103 : Int32) = nI 103 from rfl, sb (by omega)]
      have f3 := f1.tr (f2.mono fun _ _ => sOp_tr)
      refine c_whole32 (by omega) (by omega) a.toInt32 b.toInt32 (fun t0 => ?_) fun t0 v => ?_
      · rw [sW_eq (e2.trans e1)]
        exact pushR (e2.trans e1) f3 ((f2 _ _ rfl).1.trans (by rw [eR]; show _ = nI (i32B (op - 103) a.toInt32 b.toInt32).1; rw [t0]; exact e15)) o2 fun _ => by rw [eR]
      · rw [sW_eq (show (sI σ2 56 15 (nI (i32B (op - 103) a.toInt32 b.toInt32).1)).2.2 = σ.2.2 from e2.trans e1)]
        exact pushR (e2.trans e1) (f3.sI rfl) (by rw [sI_ss, eR]) (o2.fr (S := fun c j => Nat.beq c 56 && Nat.beq j 15) (Fr.sI Fr.rf rfl) rfl fun _ => rfl) fun z => absurd (by rw [eR] at z; exact z) t0
  · -- 32 bits, one
    have g90 := (el (c := 90) (by decide)).mp g90
    have g105 : ¬ 105 < op := fun w => g105 ((el (by decide)).mpr w)
    refine un (by unfold isU; omega) fun v σ1 eR e1 f1 e15 o1 => ?_
    simp only [sW_eq e1]
    rw [show (103 : Int32) = nI 103 from rfl, sb (by omega)]
    refine c_bits32 (d := d + 1) (by omega) v.toInt32 ?_
    have hx : xU op v = lN (bitsN (op - 103) 32 (u4 v.toInt32)) := by
      unfold xU
      rw [if_neg (by omega), if_pos (by omega), u4_of8]
      rfl
    have := bitsN_le (op - 103) 32 (u4 v.toInt32)
    rw [sW_eq e1, nI_l (by omega), ← hx]
    exact pushR e1 f1 e15 o1 fun _ => by rw [eR]
  · -- comparisons
    have g90 : ¬ 90 < op := fun w => g90 ((el (by decide)).mpr w)
    have n1 : op ≠ 69 := fun w => z69 ((en (by decide)).mpr w)
    have n2 : op ≠ 80 := fun w => z80 ((en (by decide)).mpr w)
    refine bi (by unfold isU; omega) fun b a σ1 eR e1 f1 e15 o1 => ?_
    simp only [sW_eq e1]
    refine ⟨fun g79 => ?_, fun g79 => ?_⟩
    · have g79 := (el (c := 79) (by decide)).mp g79
      refine x_pop o1 fun σ2 e2 f2 o2 => ?_
      simp only [sW_eq (e2.trans e1)]
      rw [show (80 : Int32) = nI 80 from rfl, sb (by omega)]
      have hx : xB op a b = (0, b2l (cmpK (op - 80) a b)) := by
        unfold xB
        rw [if_neg (by omega), if_pos (by omega)]
      exact cmpP (by omega) (by omega) (eR.trans hx) (e2.trans e1) (f1.tr (f2.mono fun _ _ => sOp_tr)) ((f2 _ _ rfl).1.trans e15) o2
    · have g79 : ¬ 79 < op := fun w => g79 ((el (by decide)).mpr w)
      refine x_pop o1 fun σ2 e2 f2 o2 => ?_
      simp only [sW_eq (e2.trans e1)]
      rw [show (69 : Int32) = nI 69 from rfl, sb (by omega)]
      have hx : xB op a b = (0, b2l (cmpK (op - 69) a b)) := by
        unfold xB
        rw [if_pos (by omega)]
      exact cmpP (by omega) (by omega) (eR.trans hx) (e2.trans e1) (f1.tr (f2.mono fun _ _ => sOp_tr)) ((f2 _ _ rfl).1.trans e15) o2
  · simp only [sW_eq e1]
    exact eqz (.inr ((en (by decide)).mp z80)) eR e1 f1 e15 o1
  · have e := (en (c := 173) (by decide)).mp z173
    simp only [sW_eq e1]
    rw [and32]
    refine pushR e1 f1 e15 o1 fun _ => ?_
    rw [eR, e]
    rfl
  · have e := (en (c := 172) (by decide)).mp z172
    simp only [sW_eq e1]
    refine pushR e1 f1 e15 o1 fun _ => ?_
    rw [eR, e]
    rfl
  · have e := (en (c := 167) (by decide)).mp z167
    simp only [sW_eq e1]
    refine pushR e1 f1 e15 o1 fun _ => ?_
    rw [eR, e]
    rfl
end NUMX2
