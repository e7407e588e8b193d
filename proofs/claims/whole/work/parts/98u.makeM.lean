/-! A MODULE IS MADE: the reference -/
def mkM (m : Md) (σ : fkS) : Prop := (∀ (k : Nat) (x : Gl), (mdG m)[k]? = some x → σ.2.1 146 k = x.2.2.2) ∧ (∀ k, k < 131072 → σ.1 148 k = 0) ∧ σ.1 103 62 = nI (pgN m) ∧ ∀ k, k < 100 → σ.1 147 k = tbF (mdL m) k
def sMm (c j : Nat) : Bool := (Nat.beq c 103 && (Nat.beq j 37 || Nat.beq j 39 || Nat.beq j 62)) || Nat.beq c 146 || Nat.beq c 147 || Nat.beq c 148
section MAKEM
variable {t : Nat → UInt8} {n b d : Nat} {m : Md} {σ : fkS} {Q : fkS → Prop}
theorem w_me87 {σ0 : fkS} (hQ : ∀ σ', σ'.2 = σ0.2 → (∀ c, c ≠ 148 → σ'.1 c = σ0.1 c) → (∀ k, k < 131072 → σ'.1 148 k = 0) → Wq 289 d 108 [some (.ref 103), some (.int (nI 0)), none, none] [] σ' (Qv Q)) :
    ∀ (r k : Nat) (σ : fkS), k + r = 131072 → σ.2 = σ0.2 → (∀ c, c ≠ 148 → σ.1 c = σ0.1 c) → (∀ j, j < k → σ.1 148 j = 0) → Wq 289 d 87 [some (.ref 103), some (.int (nI k)), none, none] [] σ (Qv Q)
  | 0, k, σ, hk, h2, h3, h4 => by
    have hk : k = 131072 := by omega
    subst hk
    exact S_M_makes_87 (pk_le 131072 131072 (fun _ => hQ σ h2 h3 h4) fun z => absurd z (by omega))
  | r + 1, k, σ, hk, h2, h3, h4 => by
    refine S_M_makes_87 (pk_le 131072 k (fun z => absurd z (by omega)) fun _ => ⟨vp_in_nI (by omega) (by decide), ?_⟩)
    rw [nI_clamp (by omega), nI_1]
    refine w_me87 hQ r (k + 1) _ (by omega) h2 (fun c hc => (sI_o hc).trans (h3 c hc)) fun j hj => ?_
    rw [sI3]
    by_cases z : j = k
    · rw [if_pos z]
    · rw [if_neg z]
      exact h4 j (by omega)
theorem w_me108 {σ0 : fkS} (hQ : ∀ σ', σ'.2 = σ0.2 → (∀ c, c ≠ 147 → σ'.1 c = σ0.1 c) → (∀ k, k < 100 → σ'.1 147 k = -1) → Wq 289 d 129 [some (.ref 103), some (.int (nI 0)), none, none] [] σ' (Qv Q)) :
    ∀ (r k : Nat) (σ : fkS), k + r = 100 → σ.2 = σ0.2 → (∀ c, c ≠ 147 → σ.1 c = σ0.1 c) → (∀ j, j < k → σ.1 147 j = -1) → Wq 289 d 108 [some (.ref 103), some (.int (nI k)), none, none] [] σ (Qv Q)
  | 0, k, σ, hk, h2, h3, h4 => by
    have hk : k = 100 := by omega
    subst hk
    exact S_M_makes_108 (pk_le 100 100 (fun _ => hQ σ h2 h3 h4) fun z => absurd z (by omega))
  | r + 1, k, σ, hk, h2, h3, h4 => by
    refine S_M_makes_108 (pk_le 100 k (fun z => absurd z (by omega)) fun _ => ⟨vp_in_nI (by omega) (by decide), ?_⟩)
    rw [nI_clamp (by omega), nI_1]
    refine w_me108 hQ r (k + 1) _ (by omega) h2 (fun c hc => (sI_o hc).trans (h3 c hc)) fun j hj => ?_
    rw [sI3]
    by_cases z : j = k
    · rw [if_pos z]
    · rw [if_neg z]
      exact h4 j (by omega)
/-- one element stands in the table -/
theorem w_me154 {k : Nat} {x : El} {T : Nat → Int32} {σ0 : fkS} (hb : b < 2) (hk : k < 60) (hlen : x.2.2.length ≤ 60) (hfit : eo x + x.2.2.length ≤ 100) (hq : rLM (60 * b + k) x σ0) (hQ : ∀ σ', σ'.2 = σ0.2 → (∀ c, c ≠ 147 → σ'.1 c = σ0.1 c) → (∀ j, j < 100 → σ'.1 147 j = tbT T x j) → Wq 289 d 129 [some (.ref 103), some (.int (nI (k + 1))), none, none] [] σ' (Qv Q)) :
    ∀ (r i : Nat) (σ : fkS), i + r = x.2.2.length → σ.2 = σ0.2 → (∀ c, c ≠ 147 → σ.1 c = σ0.1 c) → (∀ j, j < 100 → σ.1 147 j = if eo x ≤ j ∧ j < eo x + i then nI ((x.2.2[j - eo x]?).getD 0) else T j) → Wq 289 d 154 [some (.ref 103), some (.int (nI k)), some (.int (nI (60 * b + k))), some (.int (nI i))] [] σ (Qv Q)
  | r, i, σ, hi, h2, h3, h4 => by
    obtain ⟨q1, q2, q3, q4⟩ := hq
    have e133 : σ.1 133 (60 * b + k) = nI x.2.2.length := (congrFun (h3 133 (by decide)) _).trans q3
    refine S_M_makes_154 ?_
    rw [nI_clamp (n := 60 * b + k) (by omega), e133]
    refine ⟨vp_in_nI (by omega) (by decide), ?_⟩
    match r with
    | 0 =>
      have hi : i = x.2.2.length := by omega
      subst hi
      rw [nI_1]
      exact pk_le x.2.2.length x.2.2.length (fun _ => hQ σ h2 h3 h4) fun z => absurd z (by omega)
    | r + 1 =>
      have hlt : i < x.2.2.length := by omega
      have hy : x.2.2[i]? = some x.2.2[i] := List.getElem?_eq_getElem hlt
      have e124 : σ.2.1 124 (60 * b + k) = lN (eo x) := by rw [h2, q2, eo_and]
      have e125 : σ.2.1 125 (60 * (60 * b + k) + i) = lN x.2.2[i] := by rw [h2]; exact q4 i _ hy
      rw [ex, nI_clamp (n := 60 * (60 * b + k) + i) (by omega), e124, e125, lN_i32, lN_i32, nI_add, nI_clamp (n := eo x + i) (by omega), nI_1]
      refine pk_le x.2.2.length i (fun z => absurd z (by omega)) fun _ => ⟨vp_in_nI (by omega) (by decide), vp_in_nI (by omega) (by decide), vp_in_nI (by omega) (by decide), ?_⟩
      rw [nI_1]
      refine w_me154 hb hk hlen hfit ⟨q1, q2, q3, q4⟩ hQ r (i + 1) _ (by omega) h2 (fun c hc => (sI_o hc).trans (h3 c hc)) fun j hj => ?_
      rw [sI3]
      by_cases z : j = eo x + i
      · rw [if_pos z, if_pos (by omega), show j - eo x = i by omega, hy]
        rfl
      · rw [if_neg z, h4 j hj]
        by_cases w : eo x ≤ j ∧ j < eo x + i
        · rw [if_pos w, if_pos (by omega)]
        · rw [if_neg w, if_neg (by omega)]
theorem w_me129 {σ0 : fkS} (hb : b < 2) (hf : fcM t n m) (h38 : σ0.1 103 38 = nI b) (hL : ML b (mdL m) σ0) (hl7 : (mdL m).length ≤ 60) (hok : mkOk m = true) (htb : tbN m ≤ 100) (hQ : ∀ σ', σ'.2 = σ0.2 → (∀ c, c ≠ 147 → σ'.1 c = σ0.1 c) → (∀ k, k < 100 → σ'.1 147 k = tbF (mdL m) k) → Q σ') :
    ∀ (r k : Nat) (σ : fkS), k + r = (mdL m).length → σ.2 = σ0.2 → (∀ c, c ≠ 147 → σ.1 c = σ0.1 c) → (∀ j, j < 100 → σ.1 147 j = tbF ((mdL m).take k) j) → Wq 289 d 129 [some (.ref 103), some (.int (nI k)), none, none] [] σ (Qv Q)
  | r, k, σ, hk, h2, h3, h4 => by
    have e38 : σ.1 103 38 = nI b := (congrFun (h3 103 (by decide)) _).trans h38
    have e115 : σ.1 115 b = nI (mdL m).length := (congrFun (h3 115 (by decide)) _).trans hL.2
    refine S_M_makes_129 ?_
    rw [e38, nI_clamp (n := b) (by omega), e115, ex]
    refine ⟨vp_in_nI hb (by decide), ?_⟩
    match r with
    | 0 =>
      have hk : k = (mdL m).length := by omega
      subst hk
      rw [List.take_length] at h4
      exact pk_le (mdL m).length (mdL m).length (fun _ => hQ σ h2 h3 h4) fun z => absurd z (by omega)
    | r + 1 =>
      have hlt : k < (mdL m).length := by omega
      have hx : (mdL m)[k]? = some (mdL m)[k] := List.getElem?_eq_getElem hlt
      generalize hxx : (mdL m)[k] = x at hx
      have hfit := List.all_eq_true.mp hok x (List.mem_of_getElem? hx)
      rw [decide_eq_true_iff] at hfit
      obtain ⟨p1, p2⟩ := hL.1 k x hx
      obtain ⟨q1, q2, q3, q4⟩ := id p2
      have hq : rLM (60 * b + k) x σ := ⟨(congrFun (h3 132 (by decide)) _).trans q1, by rw [h2]; exact q2, (congrFun (h3 133 (by decide)) _).trans q3, fun j y hy => by rw [h2]; exact q4 j y hy⟩
      refine pk_le (mdL m).length k (fun z => absurd z (by omega)) fun _ => ?_
      refine w_me154 (σ0 := σ) (T := tbF ((mdL m).take k)) hb (by omega) p1 (by omega) hq (fun σ' a2 a3 a4 => ?_) x.2.2.length 0 σ (by omega) rfl (fun _ _ => rfl) fun j hj => ?_
      · refine w_me129 hb hf h38 hL hl7 hok htb hQ r (k + 1) σ' (by omega) (a2.trans h2) (fun c hc => (a3 c hc).trans (h3 c hc)) fun j hj => ?_
        rw [tbF_succ hx]
        exact a4 j hj
      · rw [if_neg (by omega)]
        exact h4 j hj
theorem w_me15 {σ0 : fkS} (hb : b < 2) (h38 : σ0.1 103 38 = nI b) (hG : MG b (mdG m) σ0) (hl5 : (mdG m).length ≤ 60) (hQ : ∀ σ', σ'.1 = σ0.1 → σ'.2.2 = σ0.2.2 → (∀ c, c ≠ 146 → σ'.2.1 c = σ0.2.1 c) → (∀ (k : Nat) (x : Gl), (mdG m)[k]? = some x → σ'.2.1 146 k = x.2.2.2) → Wq 289 d 15 [some (.ref 103), some (.int (nI (mdG m).length)), none, none] [] σ' (Qv Q)) :
    ∀ (r k : Nat) (σ : fkS), k + r = (mdG m).length → σ.1 = σ0.1 → σ.2.2 = σ0.2.2 → (∀ c, c ≠ 146 → σ.2.1 c = σ0.2.1 c) → (∀ (j : Nat) (x : Gl), j < k → (mdG m)[j]? = some x → σ.2.1 146 j = x.2.2.2) → Wq 289 d 15 [some (.ref 103), some (.int (nI k)), none, none] [] σ (Qv Q)
  | 0, k, σ, hk, h1, h2, h3, h4 => by
    have hk : k = (mdG m).length := by omega
    subst hk
    exact hQ σ h1 h2 h3 fun j x hx => h4 j x (get_lt hx) hx
  | r + 1, k, σ, hk, h1, h2, h3, h4 => by
    have hlt : k < (mdG m).length := by omega
    have hx : (mdG m)[k]? = some (mdG m)[k] := List.getElem?_eq_getElem hlt
    generalize hxx : (mdG m)[k] = x at hx
    have e122 : σ.2.1 122 (60 * b + k) = x.2.2.2 := by rw [h3 122 (by decide)]; exact (hG.1 k x hx).2.2.2
    refine S_M_makes_15 ?_
    rw [h1, h38, nI_clamp (n := b) (by omega), hG.2, ex, nI_clamp (n := 60 * b + k) (by omega), nI_clamp (n := k) (by omega), e122, nI_1]
    refine ⟨vp_in_nI hb (by decide), pk_le (mdG m).length k (fun z => absurd z (by omega)) fun _ => ⟨vp_in_nI (by omega) (by decide), vp_in_nI (by omega) (by decide), ?_⟩⟩
    refine w_me15 hb h38 hG hl5 hQ r (k + 1) _ (by omega) h1 h2 (fun c hc => (sL_o hc).trans (h3 c hc)) fun j y hj hy => ?_
    rw [sL3]
    by_cases z : j = k
    · rw [if_pos z]
      subst z
      rw [hx] at hy
      cases hy
      rfl
    · rw [if_neg z]
      exact h4 j y (by omega) hy
theorem m_makes (hb : b < 2) (h38 : σ.1 103 38 = nI b) (hM : MX t b m σ) (hl : lenM m) (hf : fcM t n m) (hM1 : (mdM m).length ≤ 1) (htb : tbN m ≤ 100) (hok : mkOk m = true) : Cv d 289 [.ref 103] σ (fun σ' => Fr sMm σ σ' ∧ mkM m σ' ∧ σ'.1 103 37 = nI b ∧ σ'.1 103 39 = 1) := by
  have l5 : (mdG m).length ≤ 60 := hl.2.2.2.2.1
  have l7 : (mdL m).length ≤ 60 := hl.2.2.2.2.2.2.1
  refine S_M_makes ?_
  rw [h38]
  have f1 : Fr sMm σ (sI (sI σ 103 37 (nI b)) 103 39 (1 : Int32)) := (Fr.rf.sI rfl).sI rfl
  have hM2 : MX t b m (sI (sI σ 103 37 (nI b)) 103 39 (1 : Int32)) := hM.fr hl f1 fun c j h1 h2 => by
    unfold sMm
    rw [beq_ne (show c ≠ 103 by omega), beq_ne (show c ≠ 146 by omega), beq_ne (show c ≠ 147 by omega), beq_ne (show c ≠ 148 by omega)]
    rfl
  have k38 : (sI (sI σ 103 37 (nI b)) 103 39 (1 : Int32)).1 103 38 = nI b := h38
  have k37 : (sI (sI σ 103 37 (nI b)) 103 39 (1 : Int32)).1 103 37 = nI b := rfl
  have k39 : (sI (sI σ 103 37 (nI b)) 103 39 (1 : Int32)).1 103 39 = 1 := rfl
  generalize sI (sI σ 103 37 (nI b)) 103 39 (1 : Int32) = τ at *
  obtain ⟨hT, hU, hA, hMm, hG, hE, hL, hC⟩ := hM2
  refine w_me15 (σ0 := τ) hb k38 hG l5 (fun σ1 a1 a2 a3 a4 => ?_) (mdG m).length 0 τ (by omega) rfl rfl (fun _ _ => rfl) fun j x hj => absurd hj (Nat.not_lt_zero j)
  refine S_M_makes_15 ?_
  rw [a1, k38, nI_clamp (n := b) (by omega), hG.2, hMm.2]
  refine ⟨vp_in_nI hb (by decide), pk_le (mdG m).length (mdG m).length (fun _ => ⟨vp_in_nI hb (by decide), ?_⟩) fun z => absurd z (by omega)⟩
  have go : ∀ v : Int32, v = nI (pgN m) → Wq 289 d 87 [some (.ref 103), some (.int (nI 0)), none, none] [] (sI σ1 103 62 v) (Qv fun σ' => Fr sMm σ σ' ∧ mkM m σ' ∧ σ'.1 103 37 = nI b ∧ σ'.1 103 39 = 1) := fun v hv => by
    have f2 : Fr sMm σ (sI σ1 103 62 v) := by
      refine (f1.tr fun c j hcj => ⟨by rw [a1], ?_, by rw [a2]⟩ : Fr sMm σ σ1).sI rfl
      rw [a3 c fun z => by subst z; rw [show sMm 146 j = true from rfl] at hcj; cases hcj]
    have u37 : (sI σ1 103 62 v).1 103 37 = nI b := (congrFun (congrFun a1 103) 37).trans k37
    have u39 : (sI σ1 103 62 v).1 103 39 = 1 := (congrFun (congrFun a1 103) 39).trans k39
    have u38 : (sI σ1 103 62 v).1 103 38 = nI b := (congrFun (congrFun a1 103) 38).trans k38
    have u62 : (sI σ1 103 62 v).1 103 62 = nI (pgN m) := hv
    have uL : ML b (mdL m) (sI σ1 103 62 v) := by
      refine ⟨fun k x hx => ?_, (congrFun (sI_o (by decide)) b).trans ((congrFun (congrFun a1 115) b).trans hL.2)⟩
      obtain ⟨p1, q1, q2, q3, q4⟩ := hL.1 k x hx
      exact ⟨p1, (congrFun (sI_o (by decide)) _).trans ((congrFun (congrFun a1 132) _).trans q1), (congrFun (a3 124 (by decide)) _).trans q2, (congrFun (sI_o (by decide)) _).trans ((congrFun (congrFun a1 133) _).trans q3), fun j y hy => (congrFun (a3 125 (by decide)) _).trans (q4 j y hy)⟩
    have uG : ∀ (k : Nat) (x : Gl), (mdG m)[k]? = some x → (sI σ1 103 62 v).2.1 146 k = x.2.2.2 := a4
    generalize sI σ1 103 62 v = υ at *
    refine w_me87 (σ0 := υ) (fun σ2 b2 b3 b4 => ?_) 131072 0 υ (by decide) rfl (fun _ _ => rfl) fun j hj => absurd hj (Nat.not_lt_zero j)
    refine w_me108 (σ0 := σ2) (fun σ3 c2 c3 c4 => ?_) 100 0 σ2 (by decide) rfl (fun _ _ => rfl) fun j hj => absurd hj (Nat.not_lt_zero j)
    have g3 : σ3.2 = υ.2 := c2.trans b2
    have g1 : ∀ c, c ≠ 147 → c ≠ 148 → σ3.1 c = υ.1 c := fun c h1 h2 => (c3 c h1).trans (b3 c h2)
    have hL3 : ML b (mdL m) σ3 := by
      refine ⟨fun k x hx => ?_, (congrFun (g1 115 (by decide) (by decide)) b).trans uL.2⟩
      obtain ⟨p1, q1, q2, q3, q4⟩ := uL.1 k x hx
      exact ⟨p1, (congrFun (g1 132 (by decide) (by decide)) _).trans q1, by rw [g3]; exact q2, (congrFun (g1 133 (by decide) (by decide)) _).trans q3, fun j y hy => by rw [g3]; exact q4 j y hy⟩
    refine w_me129 (σ0 := σ3) hb hf ((congrFun (g1 103 (by decide) (by decide)) 38).trans u38) hL3 l7 hok htb (fun σ4 d2 d3 d4 => ?_) (mdL m).length 0 σ3 (by omega) rfl (fun _ _ => rfl) fun j hj => c4 j hj
    have h3 : σ4.2 = υ.2 := d2.trans g3
    have h1 : ∀ c, c ≠ 147 → c ≠ 148 → σ4.1 c = υ.1 c := fun c z1 z2 => (d3 c z1).trans (g1 c z1 z2)
    refine ⟨f2.tr fun c j hcj => ⟨?_, by rw [h3], by rw [h3]⟩, ⟨fun k x hx => by rw [h3]; exact uG k x hx, fun k hk => ?_, (congrFun (h1 103 (by decide) (by decide)) 62).trans u62, d4⟩, (congrFun (h1 103 (by decide) (by decide)) 37).trans u37, (congrFun (h1 103 (by decide) (by decide)) 39).trans u39⟩
    · unfold sMm at hcj
      simp only [Bool.or_eq_false_iff] at hcj
      rw [h1 c (fun z => by subst z; exact absurd hcj.1.2 (by decide)) fun z => by subst z; exact absurd hcj.2 (by decide)]
    · rw [d3 148 (by decide), c3 148 (by decide)]
      exact b4 k hk
  refine ⟨fun z => go 0 ?_, fun z => ⟨vp_in_nI hb (by decide), go _ ?_⟩⟩
  · have h1 : ¬ (mdM m).length = 1 := fun y => z (by rw [y]; rfl)
    unfold pgN lsN
    rw [if_neg h1]
    rfl
  · have h1 : (mdM m).length = 1 := (nI_eq (b := 1) (by omega) (by decide)).mp z
    have hg : (mdM m)[0]? = some (liLast (mdM m)) := li_first h1
    have := (hMm.1 0 _ hg rfl).1
    rw [a3 120 (by decide), this, lN_i32]
    unfold pgN lsN
    rw [if_pos h1]
end MAKEM
