/-! THE JUDGE OF A FUNCTION: one INSTRUCTION; the class -/
theorem lN_i32 (k : Nat) : (lN k).toInt32 = nI k := by
  apply Int32.toBitVec_inj.mp
  show (BitVec.ofNat 64 k).signExtend 32 = BitVec.ofNat 32 k
  rw [BitVec.signExtend_eq_setWidth_of_le _ (by decide)]
  apply BitVec.eq_of_toNat_eq
  rw [BitVec.toNat_setWidth, BitVec.toNat_ofNat, BitVec.toNat_ofNat]
  omega
/-- what an INSTRUCTION's row keeps -/
def fI (I : In) : Prop := iOp I < 256 ∧ (2 ≤ iOp I ∧ iOp I ≤ 4 → iB I < 200) ∧ ((iOp I = 12 ∨ iOp I = 13) → (iL I).length = 1) ∧ (iOp I = 14 → (iL I).length = iS I + 1) ∧ iS I ≤ 99 ∧ (∀ l ∈ iL I, l < 2 ^ 32) ∧ (iOp I ≤ 11 → iOp I = 0 ∨ iOp I = 1 ∨ iOp I = 2 ∨ iOp I = 3 ∨ iOp I = 4 ∨ iOp I = 5 ∨ iOp I = 11)
/-- one INSTRUCTION of function f -/
def jI (t : Nat → UInt8) (m : Md) (f i : Nat) (I : In) (J : JS) : JS :=
  if iOp I ≤ 11 then jStr (mdC m).2 i (iOp I) (iB I) J
  else if iOp I ≤ 15 then (if iOp I = 15 then jRet J else jBr (mdC m).2 (iOp I) (iL I) J)
  else if iOp I ≤ 17 then (if iOp I = 16 then jC16 t m (iB I) J else jC17 t m (iB I) J)
  else if iOp I ≤ 27 then (if iOp I = 26 then (jPop 0 J).2 else jSel J)
  else if iOp I ≤ 34 then jLoc t m f (iOp I) (iB I) J
  else if iOp I ≤ 36 then jGlo m (iOp I) (iB I) J
  else if iOp I ≤ 64 then jMem m (iOp I) (iS I) J
  else if iOp I ≤ 66 then jPush (if iOp I = 65 then 127 else 126) J
  else jNum (iOp I) J
theorem cx.of {C : List In} {J K : JS} (h : cx C J) (e : jB K = jB J) : cx C K := fun k b o hb ho => h k b o (by rw [← e]; exact hb) ho
theorem jBr1_B {op : Nat} {J : JS} : jB (jBr1 op J) = jB J := by
  unfold jBr1
  split
  · rfl
  · exact jPop_B
theorem jok.br1 {op : Nat} {J : JS} (h : jok J) : jok (jBr1 op J) := by
  unfold jBr1
  split
  · exact h
  · exact h.pop
section INSJ
variable {t : Nat → UInt8} {n d f : Nat} {m : Md} {J : JS} {σ : fkS}
theorem w_br34 {C : List In} {i op fr e s : Nat} {Ls : List Nat} {J1 : JS} {σ0 : fkS} (hop : op < 256) (h : rJ J1 σ) (e0 : σ.2.2 = σ0.2.2) (f0 : Fr sJg σ0 σ) (h50 : σ0.2.2 50 1 = 37) (hD : DCk C σ0) (hc : cx C J1) (hl : fr + Ls.length ≤ 4000) (hl0 : 0 < Ls.length) (hf : σ0.1 50 2 = nI f) (hf60 : f < 60) (he : σ0.1 38 f = nI e) (hlb : labs Ls fr 0 σ0) (hi : i < 4000)
    (h42 : (σ0.2.1 42 i).toInt32 = nI fr) (h43 : op = 14 → σ0.1 43 i = nI s ∧ Ls.length = s + 1) (h1 : op ≠ 14 → Ls.length = 1) :
    Wq 77 (d + 3) 34 [some (.ref 50), some (.int (nI i)), some (.int (nI op)), none, none, none, none] [] σ (Qv fun σ' => σ'.2.2 = σ0.2.2 ∧ Fr (sJb fr (fr + Ls.length)) σ0 σ' ∧ rJ (jBr3 op (jDue C J1 Ls) (jBr2 C Ls J1)) σ' ∧ (jG (jBr2 C Ls J1) = true → resd C e J1 Ls fr Ls.length σ')) := by
  have hDσ : DCk C σ := hD.fr f0 fun c q _ y => sJg_lt (by omega)
  have hlbσ : labs Ls fr 0 σ := hlb.fr f0 (Nat.le_refl _) fun _ _ => sJg44
  have hlt : Ls.length - 1 < Ls.length := by omega
  have hx : Ls[Ls.length - 1]? = some Ls[Ls.length - 1] := List.getElem?_eq_getElem hlt
  have hh50 : σ.2.2 50 1 = 37 := by rw [e0]; exact h50
  have c42 : (σ.2.1 42 i).toInt32 = nI fr := by rw [show σ.2.1 42 i = σ0.2.1 42 i from (f0 42 i rfl).2.1]; exact h42
  have eD : jDue C J1 Ls = match jBk J1 Ls[Ls.length - 1] with
    | some b => bNeed C b
    | none => 0 := by
    unfold jDue
    rw [hx]
    rfl
  have go : Di (d + 2) 79 [.ref 50, .int (nI (fr + (Ls.length - 1)))] σ (fun x2 σ1 => Wq 77 (d + 3) 79 [some (.ref 50), none, some (.int (nI op)), some (.int (nI fr)), some (.int (nI (fr + (Ls.length - 1)))), some (.int x2), some (.int (nI fr))] [] (sW σ1 σ) (Qv fun σ' => σ'.2.2 = σ0.2.2 ∧ Fr (sJb fr (fr + Ls.length)) σ0 σ' ∧ rJ (jBr3 op (jDue C J1 Ls) (jBr2 C Ls J1)) σ' ∧ (jG (jBr2 C Ls J1) = true → resd C e J1 Ls fr Ls.length σ'))) := by
    obtain ⟨g1, g2⟩ := hlbσ _ _ (Nat.zero_le _) hx
    refine (c_labelGives (d := d + 1) h hh50 hDσ hc (l := fr + (Ls.length - 1)) (by omega) g1 g2).mono fun x σ1 hx1 => ?_
    obtain ⟨v, rfl, e1, hm⟩ := Qi_s hx1
    refine ⟨e1, ?_⟩
    simp only [sW_eq e1]
    cases hb : jBk J1 Ls[Ls.length - 1] with
    | some b =>
      rw [hb] at hm eD
      obtain ⟨rfl, rfl⟩ := hm
      have eD2 : bNeed C b = jDue C J1 Ls := eD.symm
      rw [eD2]
      exact w_br79 hop h.1 h50 hD hc hl hl0 hf hf60 he hlb Ls.length 0 (jG J1) σ1 (by omega) h e0 f0 (by rw [List.drop_zero]; rfl)
    | none =>
      rw [hb] at hm eD
      obtain ⟨rfl, hp⟩ := hm
      have eD2 : jDue C J1 Ls = 0 := eD
      have hall : Ls.all (jOk1 C J1 (jDue C J1 Ls)) = false := by
        cases ha : Ls.all (jOk1 C J1 (jDue C J1 Ls)) with
        | false => rfl
        | true =>
          have := List.all_eq_true.mp ha _ (List.getElem_mem hlt)
          unfold jOk1 at this
          rw [hb] at this
          cases this
      have := w_br79 (d := d) (σ0 := σ0) (e := e) hop h.1 h50 hD hc hl hl0 hf hf60 he hlb Ls.length 0 false σ1 (by omega) hp.2 (e1.trans e0) (f0.tr hp.1) (by
        show false = (jG J1 && Ls.all (jOk1 C J1 (jDue C J1 Ls)))
        rw [hall, Bool.and_false])
      rw [eD2] at this ⊢
      exact this
  refine S_Judge_branch_34 hh50 ⟨by decide, vp_in_nI hi (by decide), ?_⟩
  rw [nI_clamp (n := i) (by omega), c42]
  refine And.comm.mp (pk_eq op 14 (fun z => ⟨by decide, vp_in_nI hi (by decide), ?_⟩) fun z => ?_)
  · obtain ⟨g1, g2⟩ := h43 z
    rw [show σ.1 43 i = σ0.1 43 i from (f0 43 i rfl).1, g1, nI_add, show fr + s = fr + (Ls.length - 1) by omega]
    exact go
  · have := h1 z
    rw [show nI fr + (0 : Int32) = nI (fr + 0) from nI_add fr 0, show fr + 0 = fr + (Ls.length - 1) by omega]
    exact go
theorem c_ret {i : Nat} (h : rJ J σ) (h0 : 0 < (jB J).length) : Dv (d + 3) 77 [.ref 50, .int (nI i), .int (nI 15)] σ (fun σ' => PJ (jRet J) σ σ') := by
  have hb : (jB J)[0]? = some (jB J)[0] := List.getElem?_eq_getElem h0
  obtain ⟨b1, b2, b3, b4⟩ := h.2.2.2.2.1 0 _ hb
  have hg := (h.1.2.2.2.1 0 _ hb).2.1
  refine S_Judge_branch ⟨fun z => absurd rfl z, fun _ => ⟨vp_in_nI (n := 0) (by decide) (by decide), ?_⟩⟩
  rw [show (0 : Int32).toNatClampNeg = 0 from rfl, b3]
  refine (c_jpopG (d := d + 1) h hg).mono fun x σ1 hx => ?_
  obtain ⟨rfl, e1, hp⟩ := Qv_s hx
  refine ⟨e1, ?_⟩
  simp only [sW_eq e1]
  refine (c_jdead (d := d + 2) hp.2).mono fun x σ2 hx => ?_
  obtain ⟨rfl, e2, hp2⟩ := Qv_s hx
  refine ⟨e2, ?_⟩
  simp only [sW_eq (e2.trans e1)]
  unfold jRet
  rw [hb]
  exact ⟨e2.trans e1, hp.tr hp2⟩
theorem c_br {C : List In} {i op fr e s : Nat} {Ls : List Nat} (hop : op = 12 ∨ op = 13 ∨ op = 14) (h : rJ J σ) (h50 : σ.2.2 50 1 = 37) (hD : DCk C σ) (hc : cx C J) (hl : fr + Ls.length ≤ 4000) (hl0 : 0 < Ls.length) (hf : σ.1 50 2 = nI f) (hf60 : f < 60) (he : σ.1 38 f = nI e) (hlb : labs Ls fr 0 σ) (hi : i < 4000)
    (h42 : (σ.2.1 42 i).toInt32 = nI fr) (h43 : op = 14 → σ.1 43 i = nI s ∧ Ls.length = s + 1) (h1 : op ≠ 14 → Ls.length = 1) :
    Dv (d + 3) 77 [.ref 50, .int (nI i), .int (nI op)] σ (fun σ' => Fr (sJb fr (fr + Ls.length)) σ σ' ∧ rJ (jBr C op Ls J) σ' ∧ (jG (jBr2 C Ls (jBr1 op J)) = true → resd C e (jBr1 op J) Ls fr Ls.length σ')) := by
  refine S_Judge_branch (And.comm.mp (pk_eq op 15 (fun z => absurd z (by omega)) fun z => pk_eq op 12 (fun y => ?_) fun y => ?_))
  · have e1 : jBr1 op J = J := if_pos y
    unfold jBr
    rw [e1]
    exact w_br34 (s := s) (σ0 := σ) (by omega) h rfl Fr.rf h50 hD hc hl hl0 hf hf60 he hlb hi h42 h43 h1
  · have e1 : jBr1 op J = (jPop 127 J).2 := if_neg y
    unfold jBr
    rw [e1]
    refine kPop (due := 127) h (by decide) rfl Fr.rf fun σ1 e1 f1 h1' => ?_
    simp only [sW_eq e1]
    exact w_br34 (s := s) (σ0 := σ) (by omega) h1' e1 f1 h50 hD (hc.of jPop_B) hl hl0 hf hf60 he hlb hi h42 h43 h1
/-- one INSTRUCTION is judged -/
theorem c_instr {i e : Nat} {I : In} (hl : lenM m) (hf : fcM t n m) (hn4 : n ≤ 4000) (hX : KX t n m σ) (h : rJ J σ) (hF : FX m f) (h502 : σ.1 50 2 = nI f) (he : σ.1 38 f = nI e) (hI : (mdC m).2[i]? = some I) (hfI : fI I) (hc : cx (mdC m).2 J) (h0 : 0 < (jB J).length) (hL : lbB (mdC m).2 i + (iL I).length ≤ 4000) (hlb : labs (iL I) (lbB (mdC m).2 i) 0 σ) :
    Dv (d + 4) 70 [.ref 50, .int (nI i), .int (nI (iOp I))] σ (fun σ' => Fr (sJb (lbB (mdC m).2 i) (lbB (mdC m).2 i + (iL I).length)) σ σ' ∧ rJ (jI t m f i I J) σ' ∧ (isBr (iOp I) → jG (jBr2 (mdC m).2 (iL I) (jBr1 (iOp I) J)) = true → resd (mdC m).2 e (jBr1 (iOp I) J) (iL I) (lbB (mdC m).2 i) (iL I).length σ')) := by
  obtain ⟨F1, F2, F3, F4, F5, F6, F7⟩ := hfI
  have hD := hX.2.2.2.2.2.2.1
  have h50 := hX.2.2.2.2.2.2.2.2.2
  obtain ⟨⟨r1, r2, r3⟩, -⟩ := hD.2.1 i I hI
  have hi : i < 4000 := by
    have := get_lt hI
    have := hD.1
    omega
  have l2 : (mdU m).length ≤ 60 := hl.2.1
  have hf60 : f < 60 := by have := hF.1; omega
  obtain ⟨hB1, hB2⟩ := iB_nI I
  have nb : ¬ isBr (iOp I) → (σ.2.1 42 i).toInt32 = nI (iB I) := fun z => by
    rw [r2]
    unfold iFirst
    unfold isBr at z
    rw [if_neg z]
    exact hB1
  have vi : vp_in (nI i) 4000 := vp_in_nI hi (by decide)
  -- an end without labels
  have go : ∀ {K : JS} {j : Nat} {as : List Value}, ¬ isBr (iOp I) → jI t m f i I J = K → Dv (d + 3) j as σ (fun σ' => PJ K σ σ') → Dv (d + 3) j as σ (fun σ1 => Qv (fun σ' => σ'.2.2 = σ.2.2 ∧ Fr (sJb (lbB (mdC m).2 i) (lbB (mdC m).2 i + (iL I).length)) σ σ' ∧ rJ (jI t m f i I J) σ' ∧ (isBr (iOp I) → jG (jBr2 (mdC m).2 (iL I) (jBr1 (iOp I) J)) = true → resd (mdC m).2 e (jBr1 (iOp I) J) (iL I) (lbB (mdC m).2 i) (iL I).length σ')) none (sW σ1 σ)) := fun hnb hK hcn => by
    refine hcn.mono fun x σ1 hx => ?_
    obtain ⟨rfl, e1, hp⟩ := Qv_s hx
    refine ⟨e1, ?_⟩
    simp only [sW_eq e1]
    rw [hK]
    exact ⟨e1, hp.1.jb, hp.2, fun z => absurd z hnb⟩
  refine S_Judge_instruction h50 (pk_lt 11 (iOp I) (fun z1 => pk_lt 15 (iOp I) (fun z2 => pk_lt 17 (iOp I) (fun z3 => pk_lt 27 (iOp I) (fun z4 => pk_lt 34 (iOp I) (fun z5 => pk_lt 36 (iOp I) (fun z6 => pk_lt 64 (iOp I) (fun z7 => pk_lt 66 (iOp I) (fun z8 => ?_) fun z8 => And.comm.mp (pk_eq (iOp I) 65 (fun z9 => ?_) fun z9 => ?_)) fun z7 => ?_) fun z6 => ⟨by decide, vi, ?_⟩) fun z5 => ⟨by decide, vi, ?_⟩) fun z4 => ?_) fun z3 => ?_) fun z2 => ?_) fun z1 => ?_)
  · refine go (by unfold isBr; omega) ?_ (c_num (d := d + 1) h F1)
    unfold jI
    rw [if_neg (by omega), if_neg (by omega), if_neg (by omega), if_neg (by omega), if_neg (by omega), if_neg (by omega), if_neg (by omega), if_neg (by omega)]
  · refine go (by unfold isBr; omega) ?_ (c_jpush (d := d + 3) (ty := 127) h (by decide))
    unfold jI
    rw [if_neg (by omega), if_neg (by omega), if_neg (by omega), if_neg (by omega), if_neg (by omega), if_neg (by omega), if_neg (by omega), if_pos (by omega), if_pos z9]
  · refine go (by unfold isBr; omega) ?_ (c_jpush (d := d + 3) (ty := 126) h (by decide))
    unfold jI
    rw [if_neg (by omega), if_neg (by omega), if_neg (by omega), if_neg (by omega), if_neg (by omega), if_neg (by omega), if_neg (by omega), if_pos (by omega), if_neg z9]
  · refine go (by unfold isBr; omega) ?_ (c_mem (d := d + 2) (al := iS I) hl h hX F1 hi fun _ _ => ⟨r3 (by omega), F5⟩)
    unfold jI
    rw [if_neg (by omega), if_neg (by omega), if_neg (by omega), if_neg (by omega), if_neg (by omega), if_neg (by omega), if_pos (by omega)]
  · have hnb : ¬ isBr (iOp I) := by unfold isBr; omega
    rw [nI_clamp (n := i) (by omega), nb hnb]
    refine go hnb ?_ (c_glUse (d := d + 2) hl hf hX h hB2 F1)
    unfold jI
    rw [if_neg (by omega), if_neg (by omega), if_neg (by omega), if_neg (by omega), if_neg (by omega), if_pos (by omega)]
  · have hnb : ¬ isBr (iOp I) := by unfold isBr; omega
    rw [nI_clamp (n := i) (by omega), nb hnb]
    refine go hnb ?_ (c_loUse (d := d + 2) hl hf hn4 hX h hF h502 hB2 F1)
    unfold jI
    rw [if_neg (by omega), if_neg (by omega), if_neg (by omega), if_neg (by omega), if_pos (by omega)]
  · refine go (by unfold isBr; omega) ?_ (c_drop (d := d + 2) h F1)
    unfold jI
    rw [if_neg (by omega), if_neg (by omega), if_neg (by omega), if_pos (by omega)]
  · have hnb : ¬ isBr (iOp I) := by unfold isBr; omega
    refine go hnb ?_ (c_call (d := d + 1) hl hf hn4 hX h hi (nb hnb) hB2 F1)
    unfold jI
    rw [if_neg (by omega), if_neg (by omega), if_pos (by omega)]
  · by_cases h15 : iOp I = 15
    · have := c_ret (d := d) (i := i) h h0
      rw [← h15] at this
      refine go (by unfold isBr; omega) ?_ this
      unfold jI
      rw [if_neg (by omega), if_pos (by omega), if_pos h15]
    · have hbr : iOp I = 12 ∨ iOp I = 13 ∨ iOp I = 14 := by omega
      have hlen : 0 < (iL I).length := by
        rcases hbr with z | z | z
        · rw [F3 (.inl z)]; decide
        · rw [F3 (.inr z)]; decide
        · rw [F4 z]; exact Nat.succ_pos _
      have h42 : (σ.2.1 42 i).toInt32 = nI (lbB (mdC m).2 i) := by
        rw [r2]
        unfold iFirst
        rw [if_pos hbr]
        exact lN_i32 _
      refine (c_br (d := d) (s := iS I) hbr h h50 hD hc hL hlen h502 hf60 he hlb hi h42 (fun z => ⟨r3 (by omega), F4 z⟩) fun z => F3 (by omega)).mono fun x σ1 hx => ?_
      obtain ⟨rfl, e1, hp⟩ := Qv_s hx
      refine ⟨e1, ?_⟩
      simp only [sW_eq e1]
      have ej : jI t m f i I J = jBr (mdC m).2 (iOp I) (iL I) J := by
        unfold jI
        rw [if_neg (by omega), if_pos (by omega), if_neg h15]
      rw [ej]
      exact ⟨e1, hp.1, hp.2.1, fun _ => hp.2.2⟩
  · have hnb : ¬ isBr (iOp I) := by unfold isBr; omega
    refine go hnb ?_ (c_str (d := d) hX h hc hi (nb hnb) F2 (F7 (by omega)))
    unfold jI
    rw [if_pos (by omega)]
end INSJ
