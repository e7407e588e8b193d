/-! THE JUDGE OF A FUNCTION: rules for its walk; the reference -/
def sMJ (c j : Nat) : Bool := sMg c j || fM c j
theorem Fr.mg {σ σ' : fkS} (h : Fr sMg σ σ') : Fr sMJ σ σ' := h.mono fun c j h => by unfold sMJ; rw [h]; rfl
theorem Fr.mf {σ σ' : fkS} (h : Fr fM σ σ') : Fr sMJ σ σ' := h.mono fun c j h => by unfold sMJ; rw [h, Bool.or_true]
theorem rBM.fr {C : List In} {b : Bk} {k : Nat} {S : Nat → Nat → Bool} {σ σ' : fkS} (h : rBM C b k σ) (f : Fr S σ σ') (h0 : ∀ c j, 140 ≤ c → c ≤ 145 → S c j = false) : rBM C b k σ' := by
  obtain ⟨h1, h2, h3, h4, h5⟩ := h
  exact ⟨(f _ _ (h0 144 k (by decide) (by decide))).1.trans h1, (f _ _ (h0 143 k (by decide) (by decide))).1.trans h2, (f _ _ (h0 141 k (by decide) (by decide))).1.trans h3, (f _ _ (h0 145 k (by decide) (by decide))).1.trans h4, (f _ _ (h0 142 k (by decide) (by decide))).1.trans h5⟩
theorem mJ.fr {C : List In} {J : JS} {S : Nat → Nat → Bool} {σ σ' : fkS} (h : mJ C J σ) (f : Fr S σ σ') (h53 : S 103 53 = false) (h54 : S 103 54 = false) (h57 : S 103 57 = false) (h0 : ∀ c j, 140 ≤ c → c ≤ 145 → S c j = false) : mJ C J σ' := by
  obtain ⟨h1, a1, a2, a3, a4, a5⟩ := h
  exact ⟨h1, (f _ _ h53).1.trans a1, fun k x hx => (f _ _ (h0 140 k (by decide) (by decide))).1.trans (a2 k x hx), (f _ _ h54).1.trans a3, fun k b hb => (a4 k b hb).fr f h0, (f _ _ h57).1.trans a5⟩
theorem fM_hi {c j : Nat} (h : 103 < c) : fM c j = false := by
  unfold fM
  rw [beq_ne (show c ≠ 103 by omega)]
  rfl
theorem mJ.ff {C : List In} {J : JS} {σ σ' : fkS} (h : mJ C J σ) (f : Fr fM σ σ') : mJ C J σ' := h.fr f rfl rfl rfl fun c j a _ => fM_hi (by omega)
/-- the reference's judge, its reader at p -/
def MS (t : Nat → UInt8) (n b : Nat) (C : List In) (J : JS) (p : Nat) (σ : fkS) : Prop := mJ C J σ ∧ RM t b n n p σ ∧ σ.1 103 42 = 0
/-- what an INSTRUCTION's judging ends with -/
def MO (t : Nat → UInt8) (n b : Nat) (C : List In) (K : JS) (q : Nat) (σ0 σ' : fkS) : Prop := Fr sMJ σ0 σ' ∧ MGd C K σ' ∧ (jG K = true → RM t b n n q σ' ∧ σ'.1 103 42 = 0)
theorem bf {b : Bool} (h : ¬ b = true) : b = false := by
  cases b
  · rfl
  · exact absurd rfl h
theorem jPop_some {due : Nat} {J : JS} {b : Bk} (ht : jTop J = some b) (hz : bkF b < (jT J).length) : jPop due J = (if jVal J = 0 then due else jVal J, ((jT J).take ((jT J).length - 1), jB J, jG J && (decide (jVal J = 0) || decide (due = 0) || decide (jVal J = due)))) := by
  unfold jPop
  rw [ht]
  exact if_pos hz
theorem jPop_floor {due : Nat} {J : JS} {b : Bk} (ht : jTop J = some b) (hz : ¬ bkF b < (jT J).length) : jPop due J = (due, jAnd J (bkD b)) := by
  unfold jPop
  rw [ht]
  exact if_neg hz
theorem jPop_none {due : Nat} {J : JS} (ht : jTop J = none) : jPop due J = (due, jBad J) := by
  unfold jPop
  rw [ht]
section RULEJ
variable {t : Nat → UInt8} {n b d p q : Nat} {C : List In} {J K : JS} {σ σ0 : fkS}
theorem MO.of (f0 : Fr sMJ σ0 σ) (h : MS t n b C K q σ) : MO t n b C K q σ0 σ := ⟨f0, MGd.of h.1, fun _ => h.2⟩
theorem MO.bad {K2 : JS} (f0 : Fr sMJ σ0 σ) (h : mJ C K2 σ) (h2 : jG K2 = false) (hK : jG K = false) : MO t n b C K q σ0 σ := ⟨f0, ⟨K2, h, by rw [h2, hK], fun y => by rw [hK] at y; cases y⟩, fun y => by rw [hK] at y; cases y⟩
theorem MO.gd (f0 : Fr sMJ σ0 σ) (h : MGd C K σ) (hR : RM t b n n q σ) (hf : σ.1 103 42 = 0) : MO t n b C K q σ0 σ := ⟨f0, h, fun _ => ⟨hR, hf⟩⟩
theorem MS.go (h : MS t n b C J p σ) {σ1 : fkS} (f : Fr sMg σ σ1) (h1 : mJ C K σ1) : MS t n b C K p σ1 := ⟨h1, h.2.1.fr f ⟨rfl, rfl, rfl, fun _ => rfl⟩, (f 103 42 rfl).1.trans h.2.2⟩
theorem MS.at (h : MS t n b C J p σ) (hR : RM t b n n q (okM σ q)) (hf : (okM σ q).1 103 42 = 0) : MS t n b C J q (okM σ q) := ⟨h.1.ff okM_fr, hR, hf⟩
theorem MS.g (h : MS t n b C J p σ) (g : Bool) : MS t n b C (jT J, jB J, g) p (sI σ 103 57 (b2i g)) := h.go (Fr.rf.sI rfl) (h.1.g g)
theorem sPopG {due : Nat} {Q : fkS → Prop} (h : MS t n b C J p σ) (hd : due < 200) (hl : (jT J).length ≤ 4000) (h0 : 0 < (jB J).length) (f0 : Fr sMJ σ0 σ) (k : ∀ σ1, Fr sMJ σ0 σ1 → MS t n b C (jPopG due J) p σ1 → Q σ1) : Cv (d + 1) 273 [.ref 103, .int (nI due)] σ Q := by
  refine (m_jpopG h.1 hd (by omega) h0).mono fun x σ1 hx => ?_
  obtain ⟨rfl, f1, h1⟩ := Qv_s hx
  exact k σ1 (f0.tr f1.mg) (h.go f1 h1)
theorem sPop {due : Nat} {Q : fkS → Prop} (h : MS t n b C J p σ) (hd : due < 200) (hd0 : ¬ due = 0) (hl : (jT J).length ≤ 4000) (h0 : 0 < (jB J).length) (f0 : Fr sMJ σ0 σ) (k : ∀ σ1, Fr sMJ σ0 σ1 → MS t n b C (jPop due J).2 p σ1 → Q σ1) : Cv (d + 1) 273 [.ref 103, .int (nI due)] σ Q := by
  refine sPopG h hd hl h0 f0 fun σ1 f1 h1 => ?_
  have e : jPopG due J = (jPop due J).2 := if_neg hd0
  rw [e] at h1
  exact k σ1 f1 h1
theorem sPush {ty : Nat} {Q : fkS → Prop} (h : MS t n b C J p σ) (ht : ty < 200) (hl : (jT J).length ≤ 4000) (f0 : Fr sMJ σ0 σ) (k : ∀ σ1, Fr sMJ σ0 σ1 → MS t n b C (jPush ty J) p σ1 → Q σ1) : Cv d 277 [.ref 103, .int (nI ty)] σ Q := by
  refine (m_jpush h.1 ht (by omega)).mono fun x σ1 hx => ?_
  obtain ⟨rfl, f1, h1⟩ := Qv_s hx
  exact k σ1 (f0.tr f1.mg) (h.go f1 h1)
theorem sDead {Q : fkS → Prop} (h : MS t n b C J p σ) (hl : (jT J).length ≤ 4000) (h0 : 0 < (jB J).length) (f0 : Fr sMJ σ0 σ) (k : ∀ σ1, Fr sMJ σ0 σ1 → MS t n b C (jDead J) p σ1 → Q σ1) : Cv d 272 [.ref 103] σ Q := by
  refine (m_jdead h.1 h0 (by omega)).mono fun x σ1 hx => ?_
  obtain ⟨rfl, f1, h1⟩ := Qv_s hx
  exact k σ1 (f0.tr f1.mg) (h.go f1 h1)
theorem sU {B : Nat} {Q : Int64 → fkS → Prop} (h : MS t n b C J p σ) (hU : nU t n p = .inl (B, q)) (f0 : Fr sMJ σ0 σ) (k : ∀ σ1, Fr sMJ σ0 σ1 → MS t n b C J q σ1 → Q (lN B) σ1) : Cj (d + 1) 246 [.ref 103] σ Q := by
  refine qJ h.2.1 h.2.2 (mU h.2.1 h.2.2) (fun a q1 r hR hv hR1 hf1 => ?_) fun w pl r σ1 hR _ _ _ => by rw [hU] at hR; cases hR
  rw [hU] at hR
  cases hR
  subst hv
  exact k _ (f0.tr okM_fr.mf) (h.at hR1 hf1)
theorem sV {B : Nat} {Q : Int32 → fkS → Prop} (h : MS t n b C J p σ) (hU : nV t n p = .inl (B, q)) (f0 : Fr sMJ σ0 σ) (k : ∀ σ1, Fr sMJ σ0 σ1 → MS t n b C J q σ1 → Q (nI B) σ1) : Ci (d + 2) 250 [.ref 103] σ Q := by
  refine qI h.2.1 h.2.2 (mV h.2.1 h.2.2) (fun a q1 r hR hv hR1 hf1 => ?_) fun w pl r σ1 hR _ _ _ => by rw [hU] at hR; cases hR
  rw [hU] at hR
  cases hR
  subst hv
  exact k _ (f0.tr okM_fr.mf) (h.at hR1 hf1)
theorem sN {Q : Int32 → fkS → Prop} (h : MS t n b C J p σ) (hp : p < n) (f0 : Fr sMJ σ0 σ) (k : ∀ σ1, Fr sMJ σ0 σ1 → MS t n b C J (p + 1) σ1 → Q (nI (t p).toNat) σ1) : Ci (d + 1) 243 [.ref 103] σ Q := by
  have hN : nN t n p = .inl ((t p).toNat, p + 1) := if_pos hp
  refine qI h.2.1 h.2.2 (mN h.2.1 h.2.2) (fun a q1 r hR hv hR1 hf1 => ?_) fun w pl r σ1 hR _ _ _ => by rw [hN] at hR; cases hR
  rw [hN] at hR
  cases hR
  subst hv
  exact k _ (f0.tr okM_fr.mf) (h.at hR1 hf1)
theorem sG {W : Bool} {v : Int64} {Q : Int64 → fkS → Prop} (h : MS t n b C J p σ) (hU : rG W t n p = .inl (v, q)) (f0 : Fr sMJ σ0 σ) (k : ∀ σ1, Fr sMJ σ0 σ1 → MS t n b C J q σ1 → Q v σ1) : Cj (d + 1) 257 [.ref 103, .int (sWd W)] σ Q := by
  refine qJ h.2.1 h.2.2 (mG h.2.1 h.2.2) (fun a q1 r hR hv hR1 hf1 => ?_) fun w pl r σ1 hR _ _ _ => by rw [hU] at hR; cases hR
  rw [hU] at hR
  cases hR
  subst hv
  exact k _ (f0.tr okM_fr.mf) (h.at hR1 hf1)
/-- a pop of whatever type, where all is lost already -/
theorem sPopBad {x : Int32} {Q : fkS → Prop} (h : mJ C J σ) (hg : jG J = false) (hl : (jT J).length ≤ 4000) (h0 : 0 < (jB J).length) (f0 : Fr sMJ σ0 σ) (k : ∀ K σ1, Fr sMJ σ0 σ1 → mJ C K σ1 → jG K = false → (jT K).length ≤ 4000 → 0 < (jB K).length → Q σ1) : Cv (d + 1) 273 [.ref 103, .int x] σ Q := by
  have hB : (jB J).length ≤ 22 := h.1.2.1
  refine S_M_popOf ⟨fun hx => ?_, fun _ => k J σ f0 h hg hl h0⟩
  obtain ⟨L, bb, hL, hb, ht2⟩ := top_some h0
  obtain ⟨b1, b2, b3, b4, b5⟩ := h.2.2.2.2.1 L bb hb
  have hfl : bkF bb ≤ (jT J).length := (h.1.2.2.2.1 L bb hb).1
  have hvL : vp_in (nI L) 22 := vp_in_nI (by omega) (by decide)
  have g0 : mJ C J (sI σ 103 57 (0 : Int32)) := by
    have := h.g false
    have e : (jT J, jB J, false) = J := by rw [← hg]; rfl
    rwa [e] at this
  have fin : ∀ K σ1, Fr sMJ σ0 σ1 → mJ C K σ1 → jG K = false → (jT K).length ≤ 4000 → 0 < (jB K).length → ∀ x2 : Int32, ((x2 = 0 → Qv Q none σ1) ∧ (¬ x2 = 0 → ((x2 = x → Qv Q none σ1) ∧ (¬ x2 = x → Qv Q none (sI σ1 103 57 (0 : Int32)))))) := fun K σ1 f1 hK gK lK bK x2 => by
    have gK0 : mJ C K (sI σ1 103 57 (0 : Int32)) := by
      have := hK.g false
      have e : (jT K, jB K, false) = K := by rw [← gK]; rfl
      rwa [e] at this
    exact ⟨fun _ => k K σ1 f1 hK gK lK bK, fun _ => ⟨fun _ => k K σ1 f1 hK gK lK bK, fun _ => k K _ (f1.sI rfl) gK0 gK lK bK⟩⟩
  refine S_M_pop ?_
  rw [h.2.2.2.1, hL, nI_pred, nI_clamp (n := L) (by omega), b2, b4, h.2.1]
  refine ⟨hvL, And.comm.mp (pk_eq (jT J).length (bkF bb) (fun y => ⟨hvL, fun w => ?_, fun w => ?_⟩) fun y => ?_)⟩
  · exact fin J σ f0 h hg hl h0 0
  · exact fin J _ (f0.sI rfl) g0 hg hl h0 0
  · obtain ⟨T, hTT⟩ : ∃ T, (jT J).length = T + 1 := ⟨(jT J).length - 1, by omega⟩
    have hok := (h.1.pop (due := 0)).bad (g := false)
    have e2 : jT (jPop 0 J).2 = (jT J).take ((jT J).length - 1) := by
      rw [jPop_some ht2 (by omega)]
      rfl
    have hp : mJ C ((jT J).take T, jB J, false) (sI σ 103 53 (nI T)) := by
      rw [e2, jPop_B, hTT] at hok
      obtain ⟨a1, a2, a3, a4, a5⟩ := h.2
      refine ⟨hok, ?_, fun k x hx => a2 k x (get_take hx).1, a3, a4, by rw [← hg]; exact a5⟩
      show nI T = nI ((jT J).take T).length
      rw [List.length_take, Nat.min_eq_left (by omega)]
    rw [hTT, nI_pred]
    refine ⟨vp_in_nI (by omega) (by decide), ?_⟩
    exact fin _ _ (f0.sI rfl) hp rfl (by show ((jT J).take T).length ≤ 4000; rw [List.length_take]; omega) h0 _
/-- gone, where all is lost already -/
theorem sDeadBad {Q : fkS → Prop} (h : mJ C J σ) (hg : jG J = false) (hl : (jT J).length ≤ 4000) (h0 : 0 < (jB J).length) (f0 : Fr sMJ σ0 σ) (k : ∀ K σ1, Fr sMJ σ0 σ1 → mJ C K σ1 → jG K = false → Q σ1) : Cv d 272 [.ref 103] σ Q := by
  refine (m_jdead h h0 (by omega)).mono fun x σ1 hx => ?_
  obtain ⟨rfl, f1, h1⟩ := Qv_s hx
  exact k _ σ1 (f0.tr f1.mg) h1 (by rw [jG_dead]; exact hg)
/-- the top one, whatever it is -/
theorem sTop {Q : Int32 → fkS → Prop} (h : MS t n b C J p σ) (hl : (jT J).length ≤ 4000) (h0 : 0 < (jB J).length) (f0 : Fr sMJ σ0 σ) (k : ∀ σ1, Fr sMJ σ0 σ1 → MS t n b C (jPop 0 J).2 p σ1 → Q (nI (jPop 0 J).1) σ1) : Ci d 274 [.ref 103] σ Q := by
  have hB : (jB J).length ≤ 22 := h.1.1.2.1
  obtain ⟨L, bb, hL, hb, ht2⟩ := top_some h0
  obtain ⟨b1, b2, b3, b4, b5⟩ := h.1.2.2.2.2.1 L bb hb
  have hfl : bkF bb ≤ (jT J).length := (h.1.1.2.2.2.1 L bb hb).1
  have hvL : vp_in (nI L) 22 := vp_in_nI (by omega) (by decide)
  refine S_M_pop ?_
  rw [h.1.2.2.2.1, hL, nI_pred, nI_clamp (n := L) (by omega), b2, b4, h.1.2.1]
  refine ⟨hvL, And.comm.mp (pk_eq (jT J).length (bkF bb) (fun y => ⟨hvL, fun w => ?_, fun w => ?_⟩) fun y => ?_)⟩
  · have e2 : jPop 0 J = (0, jAnd J (bkD bb)) := by
      unfold jPop
      rw [ht2]
      exact if_neg (by omega)
    have : jAnd J (bkD bb) = J := by
      unfold jAnd
      rw [b2t w, Bool.and_true]
      rfl
    have := k σ f0 (by rw [e2, this]; exact h)
    rw [e2] at this
    exact this
  · have e2 : jPop 0 J = (0, jAnd J (bkD bb)) := by
      unfold jPop
      rw [ht2]
      exact if_neg (by omega)
    have : jAnd J (bkD bb) = (jT J, jB J, false) := by
      unfold jAnd
      rw [b2i_0.mp w, Bool.and_false]
    have := k _ (f0.sI rfl) (by rw [e2, this]; exact h.g false)
    rw [e2] at this
    exact this
  · have hz : bkF bb < (jT J).length := by omega
    have hv := jVal_get (J := J) (by omega)
    obtain ⟨T, hTT⟩ : ∃ T, (jT J).length = T + 1 := ⟨(jT J).length - 1, by omega⟩
    have e51 : σ.1 140 T = nI (jVal J) := by
      have := h.1.2.2.1 _ _ hv
      rwa [hTT] at this
    have hok := h.1.1.pop (due := 0)
    have e2 : jPop 0 J = (jVal J, ((jT J).take ((jT J).length - 1), jB J, jG J)) := by
      unfold jPop
      rw [ht2]
      show (if bkF bb < (jT J).length then _ else _) = _
      rw [if_pos hz]
      have e3 : (decide (jVal J = 0) || decide (0 = 0) || decide (jVal J = 0)) = true := by simp
      rw [e3, Bool.and_true]
      by_cases x0 : jVal J = 0
      · rw [if_pos x0, x0]
      · rw [if_neg x0]
    rw [e2] at hok k
    rw [hTT] at hok k ⊢
    rw [nI_pred, nI_clamp (n := T) (by omega), e51]
    refine ⟨vp_in_nI (by omega) (by decide), k _ (f0.sI rfl) (h.go (Fr.rf.sI rfl) ⟨hok, ?_⟩)⟩
    obtain ⟨a1, a2, a3, a4, a5⟩ := h.1.2
    refine ⟨?_, fun k x hx => a2 k x (get_take hx).1, a3, a4, a5⟩
    show nI T = nI ((jT J).take T).length
    rw [List.length_take, Nat.min_eq_left (by omega)]
theorem jPop_0 {due : Nat} : jPop due J = (if (jPop 0 J).1 = 0 then due else (jPop 0 J).1, jAnd (jPop 0 J).2 (decide ((jPop 0 J).1 = 0) || decide (due = 0) || decide ((jPop 0 J).1 = due))) := by
  cases ht : jTop J with
  | none =>
    rw [jPop_none ht, jPop_none ht]
    rfl
  | some b =>
    by_cases hz : bkF b < (jT J).length
    · rw [jPop_some ht hz, jPop_some ht hz]
      by_cases x0 : jVal J = 0
      · simp [x0, jAnd, jT, jB, jG]
      · simp [x0, jAnd, jT, jB, jG]
    · rw [jPop_floor ht hz, jPop_floor ht hz]
      simp [jAnd, jT, jB, jG]
end RULEJ
