/-! THE JUDGE OF A FUNCTION: labels, the end of a block; the reference -/
def MGd (C : List In) (K : JS) (σ : fkS) : Prop := ∃ K', mJ C K' σ ∧ jG K' = jG K ∧ (jG K = true → jB K' = jB K ∧ (0 < (jB K).length → K' = K))
theorem MGd.of {C : List In} {K : JS} {σ : fkS} (h : mJ C K σ) : MGd C K σ := ⟨K, h, rfl, fun _ => ⟨rfl, fun _ => rfl⟩⟩
section JUDM5
variable {b d : Nat} {C : List In} {J : JS} {σ : fkS}
theorem m_isLabel {lab : Nat} (h : mJ C J σ) (hlab : lab < 2 ^ 32) : Ci d 278 [.ref 103, .long (lN lab)] σ (fun r σ' => (lab < (jB J).length ∧ r = 1 ∧ σ' = σ) ∨ (¬ lab < (jB J).length ∧ r = 0 ∧ σ' = sI σ 103 57 (0 : Int32))) := by
  have hB : (jB J).length ≤ 22 := h.1.2.1
  have e1 : 0 ≤ lg_cmp (lN lab) (nI (jB J).length).toInt64 ↔ ¬ lab < (jB J).length := by
    rw [nI_l (by omega), lg_cmp_ge, pk_lLE (by omega) (by omega)]
    omega
  refine S_M_isLabel ?_
  rw [h.2.2.2.1, lE hlab (by omega), e1]
  exact ⟨fun z => ⟨fun y => absurd z y, fun _ => .inl ⟨z, rfl, rfl⟩⟩, fun z => ⟨fun _ => .inr ⟨z, rfl, rfl⟩, fun y => absurd z y⟩⟩
theorem m_needs {lab : Nat} {bk : Bk} (h : mJ C J σ) (hbk : jBk J lab = some bk) : Ci d 279 [.ref 103, .long (lN lab)] σ (fun r σ' => r = nI (bNeed C bk) ∧ σ' = σ) := by
  have hB : (jB J).length ≤ 22 := h.1.2.1
  obtain ⟨k, -, hk, hkl⟩ := jIx_some hbk
  have e1 : nI (jB J).length - (1 : Int32) - nI lab = nI k := by
    rw [show (1 : Int32) = nI 1 from rfl, nI_sub (by omega), nI_sub (by omega)]
    congr 1
    omega
  refine S_M_needs ?_
  rw [h.2.2.2.1, lN_i32, e1, nI_clamp (n := k) (by omega)]
  exact ⟨vp_in_nI (by omega) (by decide), (h.2.2.2.2.1 k bk hk).2.2.2.2, rfl⟩
theorem m_ends {bad : Bool} (h : mJ C J σ) (hl : (jT J).length ≤ 4000) (h0 : 0 < (jB J).length) (hb2 : b < 2) (h38 : σ.1 103 38 = nI b) (hn : ∀ bk, jTop J = some bk → bkO bk = none → bad = false)
    (hs : ∀ bk o, jTop J = some bk → bkO bk = some o → posOf C o < 4000 ∧ ∃ v, v < 256 ∧ σ.1 105 (4000 * b + posOf C o) = nI v ∧ (v = 4 → (0 ≤ σ.1 137 (4000 * b + posOf C o) ↔ bad = false)) ∧ (v ≠ 4 → bad = false)) :
    Cv (d + 3) 276 [.ref 103] σ (fun σ' => Fr sMg σ σ' ∧ MGd C (jBlk bad J) σ') := by
  have hB : (jB J).length ≤ 22 := h.1.2.1
  obtain ⟨L, bk, hL, hb, ht⟩ := top_some h0
  obtain ⟨b1, b2, b3, b4, b5⟩ := h.2.2.2.2.1 L bk hb
  have hg : bkG bk < 200 := (h.1.2.2.2.1 L bk hb).2.1
  have hvL : vp_in (nI L) 22 := vp_in_nI (by omega) (by decide)
  have e : jBlk bad J = jPushG (bkG bk) (jT (jPart J), (jB J).take ((jB J).length - 1), jG (jPart J) && !(bad && decide (bkG bk ≠ 0))) := by unfold jBlk; rw [ht]
  refine S_M_ends ?_
  rw [h.2.2.2.1, hL, nI_pred, nI_clamp (n := L) (by omega), b1, b3]
  refine ⟨hvL, hvL, (m_closes h (by omega) h0).mono fun x σ1 hx => ?_⟩
  obtain ⟨rfl, f1, h1⟩ := Qv_s hx
  have hRB : jB (rPart J) = jB J := rPart_B
  have hdp : σ1.1 103 54 = nI (L + 1) := by rw [h1.2.2.2.1, hRB, hL]
  have c38 : σ1.1 103 38 = nI b := (f1 103 38 rfl).1.trans h38
  have hRT : (jT (rPart J)).length ≤ 4000 := by
    unfold rPart
    rw [ht]
    show ((jT (jPopG (bkG bk) J)).take (bkF bk)).length ≤ 4000
    have := jPopG_T (ty := bkG bk) (J := J)
    rw [List.length_take]
    omega
  -- behind: the state τ has the good flag g
  have fin : ∀ (g : Bool) (τ : fkS), g = (jG (jPart J) && !(bad && decide (bkG bk ≠ 0))) → Fr sMg σ τ → mJ C (jT (rPart J), jB J, g) τ → Wq 276 (d + 3) 78 [some (.ref 103), some (.int (nI (bkG bk))), none] [] τ (Qv fun σ' => Fr sMg σ σ' ∧ MGd C (jBlk bad J) σ') := fun g τ hgg fτ hτ => by
    have hcut : mJ C (jT (rPart J), (jB J).take ((jB J).length - 1), g) (sI τ 103 54 (nI L)) := by
      obtain ⟨a1, a2, a3, a4, a5⟩ := hτ.2
      refine ⟨hτ.1.take (J := (jT (rPart J), jB J, g)), a1, a2, ?_, fun k c hc => a4 k c (get_take hc).1, a5⟩
      show nI L = nI ((jB J).take ((jB J).length - 1)).length
      rw [List.length_take, Nat.min_eq_left (by omega), hL]
      rfl
    have hgood : g = true → jT (rPart J) = jT (jPart J) := fun z => by
      rw [z] at hgg
      have h2 := hgg.symm
      rw [Bool.and_eq_true] at h2
      rw [rPart_eq (rPart_g.trans h2.1)]
    have d54 : τ.1 103 54 = nI (L + 1) := by
      have : τ.1 103 54 = nI (jB J).length := hτ.2.2.2.1
      rw [this, hL]
    refine S_M_ends_78 ?_
    rw [d54, nI_pred, e]
    refine pk_eq (bkG bk) 0 (fun z => ?_) fun z => ⟨fun z2 => ?_, fun z2 => ?_⟩
    · have e2 : ∀ K : JS, jPushG (bkG bk) K = K := fun K => if_pos z
      rw [e2, ← hgg]
      refine ⟨fτ.sI rfl, _, hcut, rfl, fun y => ⟨rfl, fun _ => ?_⟩⟩
      rw [hgood y]
    · have hL0 : L = 0 := Nat.eq_zero_of_not_pos fun q => nI_nle q (by omega) z2
      have hnil : (jB J).take ((jB J).length - 1) = [] := by
        rw [hL, hL0]
        rfl
      rw [← hgg, hnil]
      rw [hnil] at hcut
      refine ⟨fτ.sI rfl, _, hcut, (jG_pushG (ty := bkG bk) (J := (jT (jPart J), [], g))).symm, fun _ => ?_⟩
      have hB0 : jB (jPushG (bkG bk) (jT (jPart J), [], g)) = [] := by
        unfold jPushG jPush
        split
        · rfl
        · split <;> rfl
      refine ⟨hB0.symm, fun q => ?_⟩
      rw [hB0] at q
      exact absurd q (Nat.not_lt_zero _)
    · have e2 : ∀ K : JS, jPushG (bkG bk) K = jPush (bkG bk) K := fun K => if_neg z
      rw [e2, ← hgg]
      refine (m_jpush hcut hg (by show (jT (rPart J)).length < 4080; omega)).mono fun x σ2 hx => ?_
      obtain ⟨rfl, f2, h2⟩ := Qv_s hx
      refine ⟨(fτ.sI rfl).tr f2, _, h2, by rw [jG_push, jG_push]; rfl, fun y => ?_⟩
      rw [jG_push] at y
      have y : g = true := y
      rw [hgood y]
      exact ⟨rfl, fun _ => rfl⟩
  have good : (bad && decide (bkG bk ≠ 0)) = false → Wq 276 (d + 3) 78 [some (.ref 103), some (.int (nI (bkG bk))), none] [] σ1 (Qv fun σ' => Fr sMg σ σ' ∧ MGd C (jBlk bad J) σ') := fun z => by
    refine fin (jG (jPart J)) σ1 (by rw [z, Bool.not_false, Bool.and_true]) f1 ?_
    have : mJ C (jT (rPart J), jB (rPart J), jG (rPart J)) σ1 := h1
    rwa [hRB, rPart_g] at this
  show _ ∧ _
  cases ho : bkO bk with
  | none =>
    have hbad := hn bk ht ho
    exact ⟨fun _ => good (by rw [hbad]; rfl), fun z => absurd (show (-1 : Int32) < 0 by decide) z⟩
  | some o =>
    obtain ⟨p4, v, hv, hv105, hv4, hvn⟩ := hs bk o ht ho
    have e4 : (4000 : Int32) * σ1.1 103 38 + pI32 C (some o) = nI (4000 * b + posOf C o) := by
      rw [c38, show (4000 : Int32) = nI 4000 from rfl, nI_mul]
      exact nI_add _ _
    have vp : vp_in (nI (4000 * b + posOf C o)) 8000 := vp_in_nI (by omega) (by decide)
    rw [e4, nI_clamp (n := 4000 * b + posOf C o) (by omega), show σ1.1 105 (4000 * b + posOf C o) = nI v from (f1 105 _ rfl).1.trans hv105, show σ1.1 137 (4000 * b + posOf C o) = σ.1 137 (4000 * b + posOf C o) from (f1 137 _ rfl).1]
    refine ⟨fun z => absurd z (nI_pos (n := posOf C o) (by omega)), fun _ => ⟨vp, And.comm.mp (pk_eq v 4 (fun z => ⟨vp, fun y => good ?_, fun y => pk_eq (bkG bk) 0 (fun w => good ?_) fun w => ?_⟩) fun z => good (by rw [hvn z]; rfl))⟩⟩
    · rw [(hv4 z).mp y]
      rfl
    · rw [decide_eq_false (by omega), Bool.and_false]
    · have hbt : bad = true := by
        cases hbb : bad with
        | true => rfl
        | false => exact absurd ((hv4 z).mpr hbb) y
      refine fin false (sI σ1 103 57 (0 : Int32)) ?_ (f1.sI rfl) ?_
      · rw [hbt, decide_eq_true w, show (!(true && true)) = false from rfl, Bool.and_false]
      · have := h1.g false
        rwa [hRB] at this
end JUDM5
