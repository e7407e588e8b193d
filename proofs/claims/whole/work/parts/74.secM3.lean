/-! SECTIONS: the reference, CODES; the rows of all of them -/
section SC3
variable {t : Nat → UInt8} {b n e d : Nat}
def sCb (b c j : Nat) : Bool := sXE b c j || (Nat.beq c 103 && Nat.beq j 41) || ((Nat.beq c 134 || Nat.beq c 136) && bk 60 b j) || (Nat.beq c 135 && bk 3000 b j) || (Nat.beq c 116 && Nat.beq j b)
theorem sC_sub {k : Nat} (hk : k < 60) : ∀ c j, sKM (60 * b + k) b c j = true → sCb b c j = true := by
  intro c j h
  unfold sKM at h
  unfold sCb
  simp only [Bool.or_eq_true, Bool.and_eq_true] at h ⊢
  rcases h with ((h | h) | h) | h
  · exact Or.inl (Or.inl (Or.inl (Or.inl h)))
  · exact Or.inl (Or.inl (Or.inl (Or.inr h)))
  · exact Or.inl (Or.inl (Or.inr ⟨h.1, bk_pt hk h.2⟩))
  · exact Or.inl (Or.inr ⟨h.1, bk_sub50 hk h.2⟩)
theorem rK_other {k k2 : Nat} {x : Fi} {σ σ' : fkS} (hn : k2 ≠ k) (hx : x.1.length ≤ 50) (h : rKM (60 * b + k2) x σ) (f : Fr (sKM (60 * b + k) b) σ σ') : rKM (60 * b + k2) x σ' := by
  obtain ⟨h1, h2, h3⟩ := h
  have hne : Nat.beq (60 * b + k2) (60 * b + k) = false := beq_ne (by omega)
  refine ⟨(f 134 _ ?_).1.trans h1, fun j y hy => (f 135 _ ?_).1.trans (h2 j y hy), (f 136 _ ?_).1.trans h3⟩
  · unfold sKM
    rw [hne]
    rfl
  · have := (List.getElem?_eq_some_iff.mp hy).1
    unfold sKM
    rw [bk_out (by omega)]
    rfl
  · unfold sKM
    rw [hne]
    rfl
def qC (b k : Nat) (x : Fi) (σ : fkS) : Prop := x.1.length ≤ 50 ∧ rKM (60 * b + k) x σ
def MC (t : Nat → UInt8) (b : Nat) (x : List Fi × List In) (σ : fkS) : Prop := (∀ (k : Nat) (f : Fi), x.1[k]? = some f → qC b k f σ) ∧ RCd x.2 b σ ∧ σ.1 116 b = nI x.1.length ∧ posI t x.2 4000 ∧ sk x.2 x.2.length = []
theorem pCd_n {p q : Nat} {C : List In} {x : Fi × List In} (h : pCd t e C p = .inl (x, q)) : x.1.1.length ≤ 50 := by
  have key : ∀ (k : Nat) (L : List Nat) (p : Nat) (L2 : List Nat) (q : Nat) (e : Nat), L.length ≤ 50 → pLo t e k L p = .inl (L2, q) → L2.length ≤ 50 := by
    intro k
    induction k with
    | zero => intro L p L2 q e hl h; cases h; exact hl
    | succ k ih =>
      intro L p L2 q e hl h
      rw [pLo] at h
      obtain ⟨B, q1, h1, h⟩ := bR_inl h
      split at h
      · obtain ⟨ty, q2, h2, h⟩ := bR_inl h
        refine ih _ _ _ _ _ ?_ h
        rw [List.length_append, List.length_replicate]
        assumption
      · cases h
  unfold pCd at h
  obtain ⟨B, q1, h1, h⟩ := bR_inl h
  unfold pCd2 at h
  obtain ⟨m, q2, h2, h⟩ := bR_inl h
  obtain ⟨L, q3, h3, h⟩ := bR_inl h
  unfold pCd3 at h
  obtain ⟨C2, q4, h4, h⟩ := bR_inl h
  split at h
  · cases h
  · cases h
    exact key _ _ _ _ _ _ (by decide) h3
theorem pCd_p {p q : Nat} {C : List In} {x : Fi × List In} (h : pCd t e C p = .inl (x, q)) : p < q := by
  unfold pCd at h
  obtain ⟨B, q1, h1, h⟩ := bR_inl h
  have := rZ_l2 h1
  unfold pCd2 at h
  obtain ⟨m, q2, h2, h⟩ := bR_inl h
  obtain ⟨L, q3, h3, h⟩ := bR_inl h
  have := pLo_le _ _ _ _ _ h3
  have := nV_l h2
  unfold pCd3 at h
  obtain ⟨C2, q4, h4, h⟩ := bR_inl h
  have := pBo_le _ _ _ _ _ h4
  split at h
  · cases h
  · cases h
    omega
theorem m56_10 {σ : fkS} {v : Int32} {Q : Option Value → fkS → Prop} (hb : b < 2) (h : σ.1 103 38 = nI b) (hq : Q none (sI σ 116 b v)) : Wq 248 (d + 8) 56 [some (.ref 103), some (.int (10 : Int32)), some (.int v), none] [] σ Q := by
  have hv : vp_in (σ.1 103 38) 2 := by rw [h]; exact vp_in_nI hb (by decide)
  have hk : Q none (sI σ 116 ((σ.1 103 38).toNatClampNeg) v) := by rw [h, nI_clamp (by omega)]; exact hq
  exact S_M_section_56 ⟨fun _ => ⟨hv, hk⟩, fun z => absurd z (by decide), fun z => absurd z (by decide), fun z => absurd z (by decide), fun z => absurd z (by decide), fun z => absurd z (by decide), fun z => absurd z (by decide), fun z => absurd z (by decide), fun z => absurd z (by decide), fun z => absurd z (by decide), trivial⟩
theorem w_ms32c {m : Nat} (hm : m ≤ 60) (he : e ≤ n) {Q : Option Value → fkS → Prop} {σ0 : fkS} {R : Rr (List Fi × List In)}
    (kok : ∀ x q σ', R = .inl (x, q) → Fr (sCb b) σ0 σ' → (∀ (k : Nat) (f : Fi), x.1[k]? = some f → qC b k f σ') → RCd x.2 b σ' → posI t x.2 q → sk x.2 x.2.length = [] → RM t b n e q σ' → σ'.1 103 42 = 0 → Wq 248 (d + 8) 56 [some (.ref 103), some (.int (10 : Int32)), some (.int (nI m)), none] [] σ' Q)
    (kft : ∀ w pl σ', R = .inr (w, pl) → Fr (sCb b) σ0 σ' → ZM t b n e w pl σ' → Wq 248 (d + 8) 56 [some (.ref 103), some (.int (10 : Int32)), some (.int (nI m)), none] [] σ' Q) :
    ∀ (c p : Nat) (F : List Fi) (C : List In) (σ : fkS), F.length + c = m → 8 ≤ p → pCds t e c F C p = R → Fr (sCb b) σ0 σ → (∀ (k : Nat) (f : Fi), F[k]? = some f → qC b k f σ) → RCd C b σ → posI t C p → sk C C.length = [] → RM t b n e p σ → σ.1 103 42 = 0 → Wq 248 (d + 8) 32 [some (.ref 103), some (.int (10 : Int32)), some (.int (nI m)), some (.int (nI F.length))] [] σ Q
  | 0, p, F, C, σ, hl, hp, hR, f0, hr, hC, hI, hs, h, hf => S_M_section_32 ⟨fun _ => kok (F, C) p σ hR.symm f0 hr hC hI hs h hf, fun z => absurd (nI_le (by omega) (by omega)) z⟩
  | c + 1, p, F, C, σ, hl, hp, hR, f0, hr, hC, hI, hs, h, hf => by
    rw [pCds] at hR
    have hb := h.1
    refine S_M_section_32 ⟨fun z => absurd z (nI_ge (by omega) (by omega)), fun _ => ⟨fun z => absurd hf z, fun _ => ?_⟩⟩
    have hk : F.length < 60 := by omega
    refine S_M_thing ⟨fun _ => ?_, fun z => absurd z (by decide), fun z => absurd z (by decide), fun z => absurd z (by decide), fun z => absurd z (by decide), fun z => absurd z (by decide), fun z => absurd z (by decide), fun z => absurd z (by decide), fun z => absurd z (by decide), fun z => absurd z (by decide), trivial⟩
    rw [h.2.1, ex]
    refine (m_code (d := d) (X := 60 * b + F.length) (by omega) he hp h hf hI hC hs).mono fun y σ1 hx => ?_
    obtain ⟨rfl, f1, hu⟩ := Qv_s hx
    show Wq _ _ _ _ _ _ _
    cases hP : pCd t e C p with
    | inl y =>
      obtain ⟨x, q⟩ := y
      rw [hP] at hR hu
      obtain ⟨⟨u1, u2, u3, u4⟩, hR1, hf1⟩ := hu
      have hx50 := pCd_n hP
      have hq := pCd_p hP
      have ih := w_ms32c hm he kok kft c q (F ++ [x.1]) x.2 σ1 (by rw [List.length_append]; show F.length + 1 + c = m; omega) (by omega) hR (f0.tr (f1.mono (sC_sub hk))) (fun k f hf => ?_) u2 u3 u4 hR1 hf1
      · have hlen : nI (F ++ [x.1]).length = nI F.length + 1 := by rw [List.length_append]; exact nI_succ _
        rw [hlen] at ih
        exact ih
      · rcases get_snoc hf with ⟨hf, hk2⟩ | ⟨rfl, rfl⟩
        · have h5 := hr k f hf
          exact ⟨h5.1, rK_other (by omega) h5.1 h5.2 f1⟩
        · exact ⟨hx50, u1⟩
    | inr y =>
      obtain ⟨w, pl⟩ := y
      rw [hP] at hR hu
      have fin := kft w pl σ1 hR.symm (f0.tr (f1.mono (sC_sub hk))) hu
      exact S_M_section_32 ⟨fun _ => fin, fun _ => ⟨fun _ => fin, fun z => absurd z hu.nz⟩⟩
theorem Fr.fCb {σ σ' : fkS} (h : Fr fM σ σ') : Fr (sCb b) σ σ' := h.mono fun c j h => by unfold sCb sXE; rw [h]; rfl
theorem posI.le {p q : Nat} {C : List In} (h : posI t C p) (hq : p ≤ q) : posI t C q := ⟨fun k i hi => by have := h.1 k i hi; exact ⟨by omega, this.2⟩, h.2⟩
theorem m_sec10 {p : Nat} {σ : fkS} (he : e ≤ n) (hp : 8 ≤ p) (h : RM t b n e p σ) (hf : σ.1 103 42 = 0) : Cv (d + 8) 248 [.ref 103, .int (10 : Int32)] σ (fun σ' => YM t b n e (sCb b) (MC t b) (pCS t e p) σ σ') := by
  have s6 : sCb b 116 b = true := by unfold sCb; simp
  refine S_M_section ⟨fun _ => ?_, fun z => absurd z (by decide)⟩
  refine qI h hf (mV h hf) (fun m q x hR hv hR1 hf1 => ?_) fun w pl x σ1 hR hr0 hZ f1 => ?_
  · subst hv
    obtain ⟨-, hm, hq1, -⟩ := nV_l hR
    have hp2 : pCS t e p = pCds t e m [] [] q := by unfold pCS; rw [hR]; rfl
    rw [hp2]
    have k0 : RCd [] b (okM σ q) := fun k i o x r hi => by cases hi
    have k1 : posI t [] q := ⟨fun k i hi => (by cases hi), fun k1 k2 i1 i2 _ h1 => (by cases h1)⟩
    refine w_ms32c (d := d) (σ0 := σ) (R := pCds t e m [] [] q) hm he (fun x q2 σ2 hl f2 hr hC hI hs hR2 hf2 => ?_) (fun w pl σ2 hl f2 hZ => ?_) m q [] [] (okM σ q) (Nat.zero_add _) (by omega) rfl okM_fr.fCb (fun k x hx => by cases hx) k0 k1 rfl hR1 hf1
    · refine m56_10 hR2.1 hR2.2.1 ⟨f2.sI s6, ?_⟩
      rw [hl]
      have hlen := pCds_len _ _ _ _ _ _ hl
      have c2 : RCd x.2 b (sI σ2 116 b (nI m)) := fun k i o x r h1 h2 h3 => hC k i o x r h1 h2 h3
      refine ⟨⟨fun k f hx => hr k f hx, c2, ?_, hI.le hR2.2.2.2.2.2.2.2, hs⟩, hR2.sI (ew rfl), g0_sI hf2 rfl⟩
      rw [sI_ss, hlen]
      congr 1
      exact (Nat.zero_add m).symm
    · refine m56_10 hZ.1.choose_spec.1 hZ.1.choose_spec.2.1 ⟨f2.sI s6, ?_⟩
      rw [hl]
      exact hZ.sI (ew rfl)
  · subst hr0
    have hp2 : pCS t e p = .inr (w, pl) := by unfold pCS; rw [hR]; rfl
    refine S_M_section_32 ⟨fun _ => ?_, fun z => absurd (by decide) z⟩
    refine m56_10 hZ.1.choose_spec.1 hZ.1.choose_spec.2.1 ⟨f1.fCb.sI s6, ?_⟩
    rw [hp2]
    exact hZ.sI (ew rfl)
end SC3
/-! all parts -/
section MXS
variable {t : Nat → UInt8} {b : Nat} {S : Nat → Nat → Bool} {σ σ' : fkS}
theorem MT.fr {l : List Ty} (h : MT t b l σ) (hl : l.length ≤ 60) (f : Fr S σ σ') (h7 : ∀ k, k < 60 → S 107 (60 * b + k) = false) (h8 : ∀ k j, k < 60 → j < 60 → S 108 (60 * (60 * b + k) + j) = false) (h9 : ∀ k, k < 60 → S 109 (60 * b + k) = false) (h6 : S 106 b = false) : MT t b l σ' := by
  refine ⟨fun k x hx => ?_, (f _ _ h6).1.trans h.2⟩
  have hk := (List.getElem?_eq_some_iff.mp hx).1
  obtain ⟨a0, a1, a2, a3⟩ := h.1 k x hx
  exact ⟨a0, (f _ _ (h7 k (by omega))).1.trans a1, fun j hj => (f _ _ (h8 k j (by omega) (by omega))).1.trans (a2 j hj), (f _ _ (h9 k (by omega))).1.trans a3⟩
theorem MU.fr {l : List Nat} (h : MU b l σ) (hl : l.length ≤ 60) (f : Fr S σ σ') (h7 : ∀ k, k < 60 → S 117 (60 * b + k) = false) (h6 : S 110 b = false) : MU b l σ' := by
  refine ⟨fun k x hx => ?_, (f _ _ h6).1.trans h.2⟩
  have hk := (List.getElem?_eq_some_iff.mp hx).1
  exact (f _ _ (h7 k (by omega))).2.1.trans (h.1 k x hx)
theorem MA.fr {l : List Li} (h : MA b l σ) (_hl : l.length ≤ 60) (f : Fr S σ σ') (h8 : S 118 b = false) (h9 : S 119 b = false) (h6 : S 111 b = false) : MA b l σ' := by
  refine ⟨fun k x hx h0 => ?_, (f _ _ h6).1.trans h.2⟩
  obtain ⟨a1, a2⟩ := h.1 k x hx h0
  exact ⟨(f _ _ h8).2.1.trans a1, (f _ _ h9).2.1.trans a2⟩
theorem MM.fr {l : List Li} (h : MM b l σ) (_hl : l.length ≤ 60) (f : Fr S σ σ') (h8 : S 120 b = false) (h9 : S 121 b = false) (h6 : S 112 b = false) : MM b l σ' := by
  refine ⟨fun k x hx h0 => ?_, (f _ _ h6).1.trans h.2⟩
  obtain ⟨a1, a2⟩ := h.1 k x hx h0
  exact ⟨(f _ _ h8).2.1.trans a1, (f _ _ h9).2.1.trans a2⟩
theorem MG.fr {l : List Gl} (h : MG b l σ) (hl : l.length ≤ 60) (f : Fr S σ σ') (h1 : ∀ k, k < 60 → S 126 (60 * b + k) = false) (h2 : ∀ k, k < 60 → S 127 (60 * b + k) = false) (h3 : ∀ k, k < 60 → S 128 (60 * b + k) = false) (h4 : ∀ k, k < 60 → S 122 (60 * b + k) = false) (h6 : S 113 b = false) : MG b l σ' := by
  refine ⟨fun k x hx => ?_, (f _ _ h6).1.trans h.2⟩
  have hk := (List.getElem?_eq_some_iff.mp hx).1
  obtain ⟨a1, a2, a3, a4⟩ := h.1 k x hx
  exact ⟨(f _ _ (h1 k (by omega))).1.trans a1, (f _ _ (h2 k (by omega))).1.trans a2, (f _ _ (h3 k (by omega))).1.trans a3, (f _ _ (h4 k (by omega))).2.1.trans a4⟩
theorem ME.fr {l : List Ex} (h : ME b l σ) (hl : l.length ≤ 60) (f : Fr S σ σ') (h1 : ∀ k, k < 60 → S 129 (60 * b + k) = false) (h2 : ∀ k, k < 60 → S 130 (60 * b + k) = false) (h3 : ∀ k, k < 60 → S 131 (60 * b + k) = false) (h4 : ∀ k, k < 60 → S 123 (60 * b + k) = false) (h6 : S 114 b = false) : ME b l σ' := by
  refine ⟨fun k x hx => ?_, (f _ _ h6).1.trans h.2⟩
  have hk := (List.getElem?_eq_some_iff.mp hx).1
  obtain ⟨a1, a2, a3, a4⟩ := h.1 k x hx
  exact ⟨(f _ _ (h1 k (by omega))).1.trans a1, (f _ _ (h2 k (by omega))).1.trans a2, (f _ _ (h3 k (by omega))).1.trans a3, (f _ _ (h4 k (by omega))).2.1.trans a4⟩
theorem ML.fr {l : List El} (h : ML b l σ) (hl : l.length ≤ 60) (f : Fr S σ σ') (h1 : ∀ k, k < 60 → S 132 (60 * b + k) = false) (h2 : ∀ k, k < 60 → S 124 (60 * b + k) = false) (h3 : ∀ k, k < 60 → S 133 (60 * b + k) = false) (h4 : ∀ k j, k < 60 → j < 60 → S 125 (60 * (60 * b + k) + j) = false) (h6 : S 115 b = false) : ML b l σ' := by
  refine ⟨fun k x hx => ?_, (f _ _ h6).1.trans h.2⟩
  have hk := (List.getElem?_eq_some_iff.mp hx).1
  obtain ⟨a0, a1, a2, a3, a4⟩ := h.1 k x hx
  exact ⟨a0, (f _ _ (h1 k (by omega))).1.trans a1, (f _ _ (h2 k (by omega))).2.1.trans a2, (f _ _ (h3 k (by omega))).1.trans a3, fun j y hy => (f _ _ (h4 k j (by omega) (by have := (List.getElem?_eq_some_iff.mp hy).1; omega))).2.1.trans (a4 j y hy)⟩
theorem MC.fr {x : List Fi × List In} (h : MC t b x σ) (hl : x.1.length ≤ 60) (f : Fr S σ σ') (h1 : ∀ k, k < 60 → S 134 (60 * b + k) = false) (h2 : ∀ k j, k < 60 → j < 50 → S 135 (50 * (60 * b + k) + j) = false) (h3 : ∀ k, k < 60 → S 136 (60 * b + k) = false) (h4 : ∀ j, j < 4000 → S 137 (4000 * b + j) = false) (h5 : ∀ j, j < 4000 → S 138 (4000 * b + j) = false) (h6 : S 116 b = false) : MC t b x σ' := by
  obtain ⟨c1, c2, c3, c4, c5⟩ := h
  refine ⟨fun k g hx => ?_, fun k i o y r a1 a2 a3 => ?_, (f _ _ h6).1.trans c3, c4, c5⟩
  · have hk := (List.getElem?_eq_some_iff.mp hx).1
    obtain ⟨a0, a1, a2, a3⟩ := c1 k g hx
    exact ⟨a0, (f _ _ (h1 k (by omega))).1.trans a1, fun j z hz => (f _ _ (h2 k j (by omega) (by have := (List.getElem?_eq_some_iff.mp hz).1; omega))).1.trans (a2 j z hz), (f _ _ (h3 k (by omega))).1.trans a3⟩
  · obtain ⟨b1, b2⟩ := c2 k i o y r a1 a2 a3
    have hO := sk_O x.2 k
    rw [a3] at hO
    have := hO.1
    have := hO.2.1
    have := (List.getElem?_eq_some_iff.mp a1).1
    have hp := c4.lt (a := o) (by omega)
    exact ⟨(f _ _ (h5 _ hp)).1.trans b1, (f _ _ (h4 _ hp)).1.trans b2⟩
def MX (t : Nat → UInt8) (b : Nat) (m : Md) (σ : fkS) : Prop := MT t b (mdT m) σ ∧ MU b (mdU m) σ ∧ MA b (mdA m) σ ∧ MM b (mdM m) σ ∧ MG b (mdG m) σ ∧ ME b (mdE m) σ ∧ ML b (mdL m) σ ∧ MC t b (mdC m) σ
theorem MX.upT {m : Md} {x : List Ty} (h : MX t b m σ) (hl : lenM m) (f : Fr (sTb b) σ σ') (hn : MT t b x σ') : MX t b (setT m x) σ' := by
  obtain ⟨hT, hU, hA, hM, hG, hE, hL, hC⟩ := h
  obtain ⟨lT, lU, lA, lM, lG, lE, lL, lC⟩ := hl
  exact ⟨hn, hU.fr lU f (fun _ _ => rfl) (rfl), hA.fr lA f (rfl) (rfl) (rfl), hM.fr lM f (rfl) (rfl) (rfl), hG.fr lG f (fun _ _ => rfl) (fun _ _ => rfl) (fun _ _ => rfl) (fun _ _ => rfl) (rfl), hE.fr lE f (fun _ _ => rfl) (fun _ _ => rfl) (fun _ _ => rfl) (fun _ _ => rfl) (rfl), hL.fr lL f (fun _ _ => rfl) (fun _ _ => rfl) (fun _ _ => rfl) (fun _ _ _ _ => rfl) (rfl), hC.fr lC f (fun _ _ => rfl) (fun _ _ _ _ => rfl) (fun _ _ => rfl) (fun _ _ => rfl) (fun _ _ => rfl) (rfl)⟩
theorem MX.upU {m : Md} {x : List Nat} (h : MX t b m σ) (hl : lenM m) (f : Fr (sUb b) σ σ') (hn : MU b x σ') : MX t b (setU m x) σ' := by
  obtain ⟨hT, hU, hA, hM, hG, hE, hL, hC⟩ := h
  obtain ⟨lT, lU, lA, lM, lG, lE, lL, lC⟩ := hl
  exact ⟨hT.fr lT f (fun _ _ => rfl) (fun _ _ _ _ => rfl) (fun _ _ => rfl) (rfl), hn, hA.fr lA f (rfl) (rfl) (rfl), hM.fr lM f (rfl) (rfl) (rfl), hG.fr lG f (fun _ _ => rfl) (fun _ _ => rfl) (fun _ _ => rfl) (fun _ _ => rfl) (rfl), hE.fr lE f (fun _ _ => rfl) (fun _ _ => rfl) (fun _ _ => rfl) (fun _ _ => rfl) (rfl), hL.fr lL f (fun _ _ => rfl) (fun _ _ => rfl) (fun _ _ => rfl) (fun _ _ _ _ => rfl) (rfl), hC.fr lC f (fun _ _ => rfl) (fun _ _ _ _ => rfl) (fun _ _ => rfl) (fun _ _ => rfl) (fun _ _ => rfl) (rfl)⟩
theorem MX.upA {m : Md} {x : List Li} (h : MX t b m σ) (hl : lenM m) (f : Fr (sAb b) σ σ') (hn : MA b x σ') : MX t b (setA m x) σ' := by
  obtain ⟨hT, hU, hA, hM, hG, hE, hL, hC⟩ := h
  obtain ⟨lT, lU, lA, lM, lG, lE, lL, lC⟩ := hl
  exact ⟨hT.fr lT f (fun _ _ => rfl) (fun _ _ _ _ => rfl) (fun _ _ => rfl) (rfl), hU.fr lU f (fun _ _ => rfl) (rfl), hn, hM.fr lM f (rfl) (rfl) (rfl), hG.fr lG f (fun _ _ => rfl) (fun _ _ => rfl) (fun _ _ => rfl) (fun _ _ => rfl) (rfl), hE.fr lE f (fun _ _ => rfl) (fun _ _ => rfl) (fun _ _ => rfl) (fun _ _ => rfl) (rfl), hL.fr lL f (fun _ _ => rfl) (fun _ _ => rfl) (fun _ _ => rfl) (fun _ _ _ _ => rfl) (rfl), hC.fr lC f (fun _ _ => rfl) (fun _ _ _ _ => rfl) (fun _ _ => rfl) (fun _ _ => rfl) (fun _ _ => rfl) (rfl)⟩
theorem MX.upM {m : Md} {x : List Li} (h : MX t b m σ) (hl : lenM m) (f : Fr (sMb b) σ σ') (hn : MM b x σ') : MX t b (setM m x) σ' := by
  obtain ⟨hT, hU, hA, hM, hG, hE, hL, hC⟩ := h
  obtain ⟨lT, lU, lA, lM, lG, lE, lL, lC⟩ := hl
  exact ⟨hT.fr lT f (fun _ _ => rfl) (fun _ _ _ _ => rfl) (fun _ _ => rfl) (rfl), hU.fr lU f (fun _ _ => rfl) (rfl), hA.fr lA f (rfl) (rfl) (rfl), hn, hG.fr lG f (fun _ _ => rfl) (fun _ _ => rfl) (fun _ _ => rfl) (fun _ _ => rfl) (rfl), hE.fr lE f (fun _ _ => rfl) (fun _ _ => rfl) (fun _ _ => rfl) (fun _ _ => rfl) (rfl), hL.fr lL f (fun _ _ => rfl) (fun _ _ => rfl) (fun _ _ => rfl) (fun _ _ _ _ => rfl) (rfl), hC.fr lC f (fun _ _ => rfl) (fun _ _ _ _ => rfl) (fun _ _ => rfl) (fun _ _ => rfl) (fun _ _ => rfl) (rfl)⟩
theorem MX.upG {m : Md} {x : List Gl} (h : MX t b m σ) (hl : lenM m) (f : Fr (sGb b) σ σ') (hn : MG b x σ') : MX t b (setG m x) σ' := by
  obtain ⟨hT, hU, hA, hM, hG, hE, hL, hC⟩ := h
  obtain ⟨lT, lU, lA, lM, lG, lE, lL, lC⟩ := hl
  exact ⟨hT.fr lT f (fun _ _ => rfl) (fun _ _ _ _ => rfl) (fun _ _ => rfl) (rfl), hU.fr lU f (fun _ _ => rfl) (rfl), hA.fr lA f (rfl) (rfl) (rfl), hM.fr lM f (rfl) (rfl) (rfl), hn, hE.fr lE f (fun _ _ => rfl) (fun _ _ => rfl) (fun _ _ => rfl) (fun _ _ => rfl) (rfl), hL.fr lL f (fun _ _ => rfl) (fun _ _ => rfl) (fun _ _ => rfl) (fun _ _ _ _ => rfl) (rfl), hC.fr lC f (fun _ _ => rfl) (fun _ _ _ _ => rfl) (fun _ _ => rfl) (fun _ _ => rfl) (fun _ _ => rfl) (rfl)⟩
theorem MX.upE {m : Md} {x : List Ex} (h : MX t b m σ) (hl : lenM m) (f : Fr (sEb b) σ σ') (hn : ME b x σ') : MX t b (setE m x) σ' := by
  obtain ⟨hT, hU, hA, hM, hG, hE, hL, hC⟩ := h
  obtain ⟨lT, lU, lA, lM, lG, lE, lL, lC⟩ := hl
  exact ⟨hT.fr lT f (fun _ _ => rfl) (fun _ _ _ _ => rfl) (fun _ _ => rfl) (rfl), hU.fr lU f (fun _ _ => rfl) (rfl), hA.fr lA f (rfl) (rfl) (rfl), hM.fr lM f (rfl) (rfl) (rfl), hG.fr lG f (fun _ _ => rfl) (fun _ _ => rfl) (fun _ _ => rfl) (fun _ _ => rfl) (rfl), hn, hL.fr lL f (fun _ _ => rfl) (fun _ _ => rfl) (fun _ _ => rfl) (fun _ _ _ _ => rfl) (rfl), hC.fr lC f (fun _ _ => rfl) (fun _ _ _ _ => rfl) (fun _ _ => rfl) (fun _ _ => rfl) (fun _ _ => rfl) (rfl)⟩
theorem MX.upL {m : Md} {x : List El} (h : MX t b m σ) (hl : lenM m) (f : Fr (sLb b) σ σ') (hn : ML b x σ') : MX t b (setL m x) σ' := by
  obtain ⟨hT, hU, hA, hM, hG, hE, hL, hC⟩ := h
  obtain ⟨lT, lU, lA, lM, lG, lE, lL, lC⟩ := hl
  exact ⟨hT.fr lT f (fun _ _ => rfl) (fun _ _ _ _ => rfl) (fun _ _ => rfl) (rfl), hU.fr lU f (fun _ _ => rfl) (rfl), hA.fr lA f (rfl) (rfl) (rfl), hM.fr lM f (rfl) (rfl) (rfl), hG.fr lG f (fun _ _ => rfl) (fun _ _ => rfl) (fun _ _ => rfl) (fun _ _ => rfl) (rfl), hE.fr lE f (fun _ _ => rfl) (fun _ _ => rfl) (fun _ _ => rfl) (fun _ _ => rfl) (rfl), hn, hC.fr lC f (fun _ _ => rfl) (fun _ _ _ _ => rfl) (fun _ _ => rfl) (fun _ _ => rfl) (fun _ _ => rfl) (rfl)⟩
theorem MX.upC {m : Md} {x : List Fi × List In} (h : MX t b m σ) (hl : lenM m) (f : Fr (sCb b) σ σ') (hn : MC t b x σ') : MX t b (setC m x) σ' := by
  obtain ⟨hT, hU, hA, hM, hG, hE, hL, hC⟩ := h
  obtain ⟨lT, lU, lA, lM, lG, lE, lL, lC⟩ := hl
  exact ⟨hT.fr lT f (fun _ _ => rfl) (fun _ _ _ _ => rfl) (fun _ _ => rfl) (rfl), hU.fr lU f (fun _ _ => rfl) (rfl), hA.fr lA f (rfl) (rfl) (rfl), hM.fr lM f (rfl) (rfl) (rfl), hG.fr lG f (fun _ _ => rfl) (fun _ _ => rfl) (fun _ _ => rfl) (fun _ _ => rfl) (rfl), hE.fr lE f (fun _ _ => rfl) (fun _ _ => rfl) (fun _ _ => rfl) (fun _ _ => rfl) (rfl), hL.fr lL f (fun _ _ => rfl) (fun _ _ => rfl) (fun _ _ => rfl) (fun _ _ _ _ => rfl) (rfl), hn⟩
def sNd (c j : Nat) : Bool := Nat.beq c 103 || Nat.beq c 139
theorem MX.nd {m : Md} (h : MX t b m σ) (hl : lenM m) (f : Fr sNd σ σ') : MX t b m σ' := by
  obtain ⟨hT, hU, hA, hM, hG, hE, hL, hC⟩ := h
  obtain ⟨lT, lU, lA, lM, lG, lE, lL, lC⟩ := hl
  exact ⟨hT.fr lT f (fun _ _ => rfl) (fun _ _ _ _ => rfl) (fun _ _ => rfl) (rfl), hU.fr lU f (fun _ _ => rfl) (rfl), hA.fr lA f (rfl) (rfl) (rfl), hM.fr lM f (rfl) (rfl) (rfl), hG.fr lG f (fun _ _ => rfl) (fun _ _ => rfl) (fun _ _ => rfl) (fun _ _ => rfl) (rfl), hE.fr lE f (fun _ _ => rfl) (fun _ _ => rfl) (fun _ _ => rfl) (fun _ _ => rfl) (rfl), hL.fr lL f (fun _ _ => rfl) (fun _ _ => rfl) (fun _ _ => rfl) (fun _ _ _ _ => rfl) (rfl), hC.fr lC f (fun _ _ => rfl) (fun _ _ _ _ => rfl) (fun _ _ => rfl) (fun _ _ => rfl) (fun _ _ => rfl) (rfl)⟩
end MXS
