/-! THE JUDGE OF A FUNCTION: branches; the class -/
def jOk1 (C : List In) (J : JS) (due lab : Nat) : Bool := match jBk J lab with
  | some b => decide (bNeed C b = due)
  | none => false
def jDue (C : List In) (J : JS) (Ls : List Nat) : Nat := match jBk J ((Ls[Ls.length - 1]?).getD 0) with
  | some b => bNeed C b
  | none => 0
def jBr1 (op : Nat) (J : JS) : JS := if op = 12 then J else (jPop 127 J).2
def jBr2 (C : List In) (Ls : List Nat) (J1 : JS) : JS := jAnd J1 (Ls.all (jOk1 C J1 (jDue C J1 Ls)))
def jBr3 (op due : Nat) (J2 : JS) : JS := if op = 13 then jPushG due (jPopG due J2) else jDead (jPopG due J2)
def jBr (C : List In) (op : Nat) (Ls : List Nat) (J : JS) : JS := jBr3 op (jDue C (jBr1 op J) Ls) (jBr2 C Ls (jBr1 op J))
def sJb (a b c j : Nat) : Bool := sJg c j || s44 a b c j
theorem Fr.jb {a b : Nat} {σ σ' : fkS} (h : Fr sJg σ σ') : Fr (sJb a b) σ σ' := h.mono fun c j h => by unfold sJb; rw [h]; rfl
theorem Fr.j44 {a b : Nat} {σ σ' : fkS} (h : Fr (s44 a b) σ σ') : Fr (sJb a b) σ σ' := h.mono fun c j h => by unfold sJb; rw [h, Bool.or_true]
theorem sJg44 {j : Nat} : sJg 44 j = false := rfl
theorem rLab.fr {C : List In} {e l : Nat} {b : Bk} {S : Nat → Nat → Bool} {σ σ' : fkS} (h : rLab C e b l σ) (f : Fr S σ σ') (h0 : ∀ k, k < 3 → S 44 (3 * l + k) = false) : rLab C e b l σ' := ⟨(f _ _ (h0 0 (by decide))).1.trans h.1, (f _ _ (h0 1 (by decide))).1.trans h.2.1, (f _ _ (h0 2 (by decide))).1.trans h.2.2⟩
theorem jBk_G {J : JS} {lab : Nat} {b : Bk} (h : jok J) (hb : jBk J lab = some b) : bkG b < 200 := by
  obtain ⟨k, -, hk, -⟩ := jIx_some hb
  exact (h.2.2.2.1 k b hk).2.1
theorem bNeed_lt {C : List In} {J : JS} {lab : Nat} {b : Bk} (h : jok J) (hb : jBk J lab = some b) : bNeed C b < 200 := by
  have := jBk_G h hb
  unfold bNeed
  split
  · decide
  · exact this
theorem jDue_lt {C : List In} {J : JS} {Ls : List Nat} (h : jok J) : jDue C J Ls < 200 := by
  unfold jDue
  split
  next b hb => exact bNeed_lt h hb
  · decide
section BRX
variable {d : Nat} {C : List In} {J : JS} {σ : fkS}
/-- labels that are still as they were read -/
def labs (Ls : List Nat) (fr j0 : Nat) (σ : fkS) : Prop := ∀ (j lab : Nat), j0 ≤ j → Ls[j]? = some lab → σ.1 44 (3 * (fr + j)) = nI lab ∧ lab < 2 ^ 32
theorem labs.fr {Ls : List Nat} {fr j0 j1 : Nat} {S : Nat → Nat → Bool} {σ σ' : fkS} (h : labs Ls fr j0 σ) (f : Fr S σ σ') (h01 : j0 ≤ j1) (h0 : ∀ j, j1 ≤ j → S 44 (3 * (fr + j)) = false) : labs Ls fr j1 σ' := fun j lab hj hl => ⟨(f _ _ (h0 j hj)).1.trans (h j lab (by omega) hl).1, (h j lab (by omega) hl).2⟩
def resd (C : List In) (e : Nat) (J : JS) (Ls : List Nat) (fr n : Nat) (σ : fkS) : Prop := ∀ (j lab : Nat) (b : Bk), j < n → Ls[j]? = some lab → jBk J lab = some b → rLab C e b (fr + j) σ
theorem resd.fr {e : Nat} {Ls : List Nat} {fr n : Nat} {S : Nat → Nat → Bool} {σ σ' : fkS} (h : resd C e J Ls fr n σ) (f : Fr S σ σ') (h0 : ∀ j k, j < n → k < 3 → S 44 (3 * (fr + j) + k) = false) : resd C e J Ls fr n σ' := fun j lab b hj hl hb => (h j lab b hj hl hb).fr f fun k hk => h0 j k hj hk
theorem w_brF {Ls : List Nat} {op due fr e : Nat} {J1 : JS} {σ0 : fkS} (hop : op < 256) (hd : due < 200) (h : rJ J σ) (e0 : σ.2.2 = σ0.2.2) (f0 : Fr (sJb fr (fr + Ls.length)) σ0 σ) (hr : jG J = true → resd C e J1 Ls fr Ls.length σ) :
    Dv (d + 2) 78 [.ref 50, .int (nI due)] σ (fun σ4 => ((¬ nI op = (13 : Int32) → Dv (d + 2) 72 [.ref 50] (sW σ4 σ) (fun σ5 => Qv (fun σ' => σ'.2.2 = σ0.2.2 ∧ Fr (sJb fr (fr + Ls.length)) σ0 σ' ∧ rJ (jBr3 op due J) σ' ∧ (jG J = true → resd C e J1 Ls fr Ls.length σ')) none (sW σ5 σ))) ∧ (nI op = (13 : Int32) → Dv (d + 2) 84 [.ref 50, .int (nI due)] (sW σ4 σ) (fun σ6 => Qv (fun σ' => σ'.2.2 = σ0.2.2 ∧ Fr (sJb fr (fr + Ls.length)) σ0 σ' ∧ rJ (jBr3 op due J) σ' ∧ (jG J = true → resd C e J1 Ls fr Ls.length σ')) none (sW σ6 σ))))) := by
  refine (c_jpopG (d := d + 1) h hd).mono fun x σ1 hx => ?_
  obtain ⟨rfl, e1, hp⟩ := Qv_s hx
  refine ⟨e1, ?_⟩
  simp only [sW_eq e1]
  refine And.comm.mp (pk_eq op 13 (fun z => ?_) fun z => ?_)
  · refine (c_jpushG (d := d + 1) hp.2 hd).mono fun x σ2 hx => ?_
    obtain ⟨rfl, e2, hp2⟩ := Qv_s hx
    refine ⟨e2, ?_⟩
    simp only [sW_eq (e2.trans e1)]
    unfold jBr3
    rw [if_pos z]
    have ff := hp.1.tr hp2.1
    exact ⟨(e2.trans e1).trans e0, f0.tr ff.jb, hp2.2, fun y => (hr y).fr ff fun _ _ _ _ => sJg44⟩
  · refine (c_jdead (d := d + 2) hp.2).mono fun x σ2 hx => ?_
    obtain ⟨rfl, e2, hp2⟩ := Qv_s hx
    refine ⟨e2, ?_⟩
    simp only [sW_eq (e2.trans e1)]
    unfold jBr3
    rw [if_neg z]
    have ff := hp.1.tr hp2.1
    exact ⟨(e2.trans e1).trans e0, f0.tr ff.jb, hp2.2, fun y => (hr y).fr ff fun _ _ _ _ => sJg44⟩
theorem w_br118 {Ls : List Nat} {op due fr e f : Nat} {J1 : JS} {σ0 : fkS} (hop : op < 256) (hd : due < 200) (h50 : σ0.2.2 50 1 = 37) (hD : DCk C σ0) (hc : cx C J) (hJB : jB J = jB J1) (hl : fr + Ls.length ≤ 4000) (hl0 : 0 < Ls.length) (hf : σ0.1 50 2 = nI f) (hf60 : f < 60) (he : σ0.1 38 f = nI e)
    (hall : jG J = true → ∀ lab, lab ∈ Ls → ∃ b, jBk J1 lab = some b) :
    ∀ (r j : Nat) (σ : fkS), j + r = Ls.length → rJ J σ → σ.2.2 = σ0.2.2 → Fr (sJb fr (fr + Ls.length)) σ0 σ → (jG J = true → labs Ls fr j σ) → (jG J = true → resd C e J1 Ls fr j σ) →
    Wq 77 (d + 3) 118 [some (.ref 50), none, some (.int (nI op)), none, some (.int (nI (fr + (Ls.length - 1)))), some (.int (nI due)), some (.int (nI (fr + j)))] [] σ (Qv fun σ' => σ'.2.2 = σ0.2.2 ∧ Fr (sJb fr (fr + Ls.length)) σ0 σ' ∧ rJ (jBr3 op due J) σ' ∧ (jG J = true → resd C e J1 Ls fr Ls.length σ'))
  | 0, j, σ, hj, h, e0, f0, hlb, hr => by
    have hjl : j = Ls.length := by omega
    subst hjl
    exact S_Judge_branch_118 (pk_lt (fr + (Ls.length - 1)) (fr + Ls.length) (fun _ => w_brF hop hd h e0 f0 hr) fun z => absurd z (by omega))
  | r + 1, j, σ, hj, h, e0, f0, hlb, hr => by
    refine S_Judge_branch_118 (pk_lt (fr + (Ls.length - 1)) (fr + j) (fun z => absurd z (by omega)) fun _ => ?_)
    have h3 : σ.1 50 3 = b2i (jG J) := h.2.2.2.2.2
    rw [h3]
    refine ⟨fun z => w_brF hop hd h e0 f0 fun y => (by rw [b2i_0.mp z] at y; cases y), fun z => ?_⟩
    have hg : jG J = true := by
      cases hg : jG J with
      | true => rfl
      | false => exact absurd (b2i_0.mpr hg) z
    have hlt : j < Ls.length := by omega
    have hx : Ls[j]? = some Ls[j] := List.getElem?_eq_getElem hlt
    obtain ⟨b, hb⟩ := hall hg Ls[j] (List.getElem_mem hlt)
    obtain ⟨g1, g2⟩ := hlb hg j _ (Nat.le_refl _) hx
    have hb' : jBk J Ls[j] = some b := by
      unfold jBk at hb ⊢
      rw [hJB]
      exact hb
    have k38 : σ.1 38 f = nI e := (f0 38 f rfl).1.trans he
    have k502 : σ.1 50 2 = nI f := (f0 50 2 rfl).1.trans hf
    have hDσ : DCk C σ := hD.fr f0 fun c q _ y => by
      unfold sJb
      rw [s44_c (by omega), Bool.or_false]
      unfold sJg
      rw [beq_ne (show c ≠ 50 by omega), beq_ne (show c ≠ 51 by omega), beq_ne (show c ≠ 52 by omega), beq_ne (show c ≠ 53 by omega), beq_ne (show c ≠ 54 by omega), beq_ne (show c ≠ 55 by omega)]
      rfl
    refine (c_resolve (d := d) h (by rw [e0]; exact h50) hDσ hc (l := fr + j) (by omega) g1 g2 hb' k502 hf60 k38).mono fun x σ1 hx1 => ?_
    obtain ⟨rfl, e1, f1, hp⟩ := Qv_s hx1
    refine ⟨e1, ?_⟩
    simp only [sW_eq e1]
    rw [nI_1, show fr + j + 1 = fr + (j + 1) by omega]
    refine w_br118 hop hd h50 hD hc hJB hl hl0 hf hf60 he hall r (j + 1) σ1 (by omega) (h.fr f1 fun c q y _ => s44_c (by omega)) (e1.trans e0) (f0.tr (f1.mono (s44_mono (by omega) (by omega))).j44) (fun y => (hlb y).fr f1 (by omega) fun j2 hj2 => s44_out (by omega)) fun y j2 lab b2 hj2 hl2 hb2 => ?_
    by_cases hjj : j2 = j
    · subst hjj
      rw [hx] at hl2
      cases hl2
      rw [hb] at hb2
      cases hb2
      exact hp
    · exact (hr y j2 lab b2 (by omega) hl2 hb2).fr f1 fun k hk => s44_out (by omega)
theorem w_br79 {Ls : List Nat} {op fr e f : Nat} {J1 : JS} {σ0 : fkS} (hop : op < 256) (hok : jok J1) (h50 : σ0.2.2 50 1 = 37) (hD : DCk C σ0) (hc : cx C J1) (hl : fr + Ls.length ≤ 4000) (hl0 : 0 < Ls.length) (hf : σ0.1 50 2 = nI f) (hf60 : f < 60) (he : σ0.1 38 f = nI e) (hlb : labs Ls fr 0 σ0) :
    ∀ (r j : Nat) (g : Bool) (σ : fkS), j + r = Ls.length → rJ (jT J1, jB J1, g) σ → σ.2.2 = σ0.2.2 → Fr sJg σ0 σ → (g && (Ls.drop j).all (jOk1 C J1 (jDue C J1 Ls))) = jG (jBr2 C Ls J1) →
    Wq 77 (d + 3) 79 [some (.ref 50), none, some (.int (nI op)), some (.int (nI fr)), some (.int (nI (fr + (Ls.length - 1)))), some (.int (nI (jDue C J1 Ls))), some (.int (nI (fr + j)))] [] σ (Qv fun σ' => σ'.2.2 = σ0.2.2 ∧ Fr (sJb fr (fr + Ls.length)) σ0 σ' ∧ rJ (jBr3 op (jDue C J1 Ls) (jBr2 C Ls J1)) σ' ∧ (jG (jBr2 C Ls J1) = true → resd C e J1 Ls fr Ls.length σ'))
  | r, j, g, σ, hj, h, e0, f0, hg => by
    have hlbσ : labs Ls fr 0 σ := hlb.fr f0 (Nat.le_refl _) fun _ _ => sJg44
    have go : g = jG (jBr2 C Ls J1) → Wq 77 (d + 3) 118 [some (.ref 50), none, some (.int (nI op)), none, some (.int (nI (fr + (Ls.length - 1)))), some (.int (nI (jDue C J1 Ls))), some (.int (nI fr))] [] σ (Qv fun σ' => σ'.2.2 = σ0.2.2 ∧ Fr (sJb fr (fr + Ls.length)) σ0 σ' ∧ rJ (jBr3 op (jDue C J1 Ls) (jBr2 C Ls J1)) σ' ∧ (jG (jBr2 C Ls J1) = true → resd C e J1 Ls fr Ls.length σ')) := fun z => by
      subst z
      refine w_br118 (J := jBr2 C Ls J1) (J1 := J1) hop (jDue_lt hok) h50 hD hc rfl hl hl0 hf hf60 he (fun y lab hlab => ?_) Ls.length 0 σ (by omega) h e0 f0.jb (fun _ => hlbσ) fun _ j2 _ _ hj2 => absurd hj2 (Nat.not_lt_zero _)
      have y2 : (jG J1 && Ls.all (jOk1 C J1 (jDue C J1 Ls))) = true := y
      rw [Bool.and_eq_true] at y2
      have := List.all_eq_true.mp y2.2 lab hlab
      unfold jOk1 at this
      cases hb : jBk J1 lab with
      | some b => exact ⟨b, rfl⟩
      | none =>
        rw [hb] at this
        cases this
    match r with
    | 0 =>
      have hjl : j = Ls.length := by omega
      subst hjl
      rw [List.drop_length, List.all_nil, Bool.and_true] at hg
      exact S_Judge_branch_79 (pk_lt (fr + (Ls.length - 1)) (fr + Ls.length) (fun _ => go hg) fun z => absurd z (by omega))
    | r + 1 =>
      have hlt : j < Ls.length := by omega
      have hx : Ls[j]? = some Ls[j] := List.getElem?_eq_getElem hlt
      rw [List.drop_eq_getElem_cons hlt, List.all_cons] at hg
      refine S_Judge_branch_79 (pk_lt (fr + (Ls.length - 1)) (fr + j) (fun z => absurd z (by omega)) fun _ => ?_)
      have h3 : σ.1 50 3 = b2i g := h.2.2.2.2.2
      rw [h3]
      refine ⟨fun z => go ?_, fun z => ?_⟩
      · have := b2i_0.mp z
        rw [this, Bool.false_and] at hg
        rw [this, hg]
      · have hgt : g = true := by
          cases hgg : g with
          | true => rfl
          | false => exact absurd (b2i_0.mpr hgg) z
        subst hgt
        rw [Bool.true_and] at hg
        obtain ⟨g1, g2⟩ := hlbσ j _ (Nat.zero_le _) hx
        have hDσ : DCk C σ := hD.fr f0 fun c q _ y => by
          unfold sJg
          rw [beq_ne (show c ≠ 50 by omega), beq_ne (show c ≠ 51 by omega), beq_ne (show c ≠ 52 by omega), beq_ne (show c ≠ 53 by omega), beq_ne (show c ≠ 54 by omega), beq_ne (show c ≠ 55 by omega)]
          rfl
        refine (c_labelGives (d := d + 1) h (by rw [e0]; exact h50) hDσ hc (l := fr + j) (by omega) g1 g2).mono fun x σ1 hx1 => ?_
        obtain ⟨v, rfl, e1, hm⟩ := Qi_s hx1
        refine ⟨e1, ?_⟩
        simp only [sW_eq e1]
        rw [nI_1, show fr + j + 1 = fr + (j + 1) by omega]
        have eb : jBk (jT J1, jB J1, true) Ls[j] = jBk J1 Ls[j] := rfl
        rw [eb] at hm
        cases hb : jBk J1 Ls[j] with
        | some b =>
          rw [hb] at hm
          obtain ⟨rfl, rfl⟩ := hm
          have hbn : bNeed C b < 200 := bNeed_lt hok hb
          have hdu := jDue_lt (C := C) (Ls := Ls) hok
          have ej : jOk1 C J1 (jDue C J1 Ls) Ls[j] = decide (bNeed C b = jDue C J1 Ls) := by
            unfold jOk1
            rw [hb]
          rw [ej] at hg
          refine pk_eq (bNeed C b) (jDue C J1 Ls) (fun y => ?_) fun y => ?_
          · rw [decide_eq_true y, Bool.true_and] at hg
            exact w_br79 hop hok h50 hD hc hl hl0 hf hf60 he hlb r (j + 1) true σ1 (by omega) h e0 f0 (by rw [Bool.true_and]; exact hg)
          · rw [decide_eq_false y, Bool.false_and] at hg
            exact w_br79 hop hok h50 hD hc hl hl0 hf hf60 he hlb r (j + 1) false (sI σ1 50 3 (0 : Int32)) (by omega) (h.g false) e0 (f0.sI rfl) (by rw [Bool.false_and]; exact hg)
        | none =>
          rw [hb] at hm
          obtain ⟨rfl, hp⟩ := hm
          have ej : jOk1 C J1 (jDue C J1 Ls) Ls[j] = false := by
            unfold jOk1
            rw [hb]
          rw [ej, Bool.false_and] at hg
          exact ⟨fun _ => w_br79 hop hok h50 hD hc hl hl0 hf hf60 he hlb r (j + 1) false σ1 (by omega) hp.2 (e1.trans e0) (f0.tr hp.1) (by rw [Bool.false_and]; exact hg), fun _ => w_br79 hop hok h50 hD hc hl hl0 hf hf60 he hlb r (j + 1) false (sI σ1 50 3 (0 : Int32)) (by omega) (hp.2.g false) (e1.trans e0) ((f0.tr hp.1).sI rfl) (by rw [Bool.false_and]; exact hg)⟩
end BRX
