/-! SECTIONS: the reference, kind by kind -/
section SC2
variable {t : Nat → UInt8} {b n e d : Nat}
theorem m56_1 {σ : fkS} {v : Int32} {Q : Option Value → fkS → Prop} (hb : b < 2) (h : σ.1 103 38 = nI b) (hq : Q none (sI σ 106 b v)) : Wq 248 (d + 7) 56 [some (.ref 103), some (.int (1 : Int32)), some (.int v), none] [] σ Q := by
  have hv : vp_in (σ.1 103 38) 2 := by rw [h]; exact vp_in_nI hb (by decide)
  have hk : Q none (sI σ 106 ((σ.1 103 38).toNatClampNeg) v) := by rw [h, nI_clamp (by omega)]; exact hq
  exact S_M_section_56 ⟨fun z => absurd z (by decide), fun _ => ⟨hv, hk⟩, fun z => absurd z (by decide), fun z => absurd z (by decide), fun z => absurd z (by decide), fun z => absurd z (by decide), fun z => absurd z (by decide), fun z => absurd z (by decide), fun z => absurd z (by decide), fun z => absurd z (by decide), trivial⟩
theorem m56_3 {σ : fkS} {v : Int32} {Q : Option Value → fkS → Prop} (hb : b < 2) (h : σ.1 103 38 = nI b) (hq : Q none (sI σ 110 b v)) : Wq 248 (d + 7) 56 [some (.ref 103), some (.int (3 : Int32)), some (.int v), none] [] σ Q := by
  have hv : vp_in (σ.1 103 38) 2 := by rw [h]; exact vp_in_nI hb (by decide)
  have hk : Q none (sI σ 110 ((σ.1 103 38).toNatClampNeg) v) := by rw [h, nI_clamp (by omega)]; exact hq
  exact S_M_section_56 ⟨fun z => absurd z (by decide), fun z => absurd z (by decide), fun z => absurd z (by decide), fun _ => ⟨hv, hk⟩, fun z => absurd z (by decide), fun z => absurd z (by decide), fun z => absurd z (by decide), fun z => absurd z (by decide), fun z => absurd z (by decide), fun z => absurd z (by decide), trivial⟩
theorem m56_4 {σ : fkS} {v : Int32} {Q : Option Value → fkS → Prop} (hb : b < 2) (h : σ.1 103 38 = nI b) (hq : Q none (sI σ 111 b v)) : Wq 248 (d + 7) 56 [some (.ref 103), some (.int (4 : Int32)), some (.int v), none] [] σ Q := by
  have hv : vp_in (σ.1 103 38) 2 := by rw [h]; exact vp_in_nI hb (by decide)
  have hk : Q none (sI σ 111 ((σ.1 103 38).toNatClampNeg) v) := by rw [h, nI_clamp (by omega)]; exact hq
  exact S_M_section_56 ⟨fun z => absurd z (by decide), fun z => absurd z (by decide), fun z => absurd z (by decide), fun z => absurd z (by decide), fun _ => ⟨hv, hk⟩, fun z => absurd z (by decide), fun z => absurd z (by decide), fun z => absurd z (by decide), fun z => absurd z (by decide), fun z => absurd z (by decide), trivial⟩
theorem m56_5 {σ : fkS} {v : Int32} {Q : Option Value → fkS → Prop} (hb : b < 2) (h : σ.1 103 38 = nI b) (hq : Q none (sI σ 112 b v)) : Wq 248 (d + 7) 56 [some (.ref 103), some (.int (5 : Int32)), some (.int v), none] [] σ Q := by
  have hv : vp_in (σ.1 103 38) 2 := by rw [h]; exact vp_in_nI hb (by decide)
  have hk : Q none (sI σ 112 ((σ.1 103 38).toNatClampNeg) v) := by rw [h, nI_clamp (by omega)]; exact hq
  exact S_M_section_56 ⟨fun z => absurd z (by decide), fun z => absurd z (by decide), fun z => absurd z (by decide), fun z => absurd z (by decide), fun z => absurd z (by decide), fun _ => ⟨hv, hk⟩, fun z => absurd z (by decide), fun z => absurd z (by decide), fun z => absurd z (by decide), fun z => absurd z (by decide), trivial⟩
theorem m56_6 {σ : fkS} {v : Int32} {Q : Option Value → fkS → Prop} (hb : b < 2) (h : σ.1 103 38 = nI b) (hq : Q none (sI σ 113 b v)) : Wq 248 (d + 7) 56 [some (.ref 103), some (.int (6 : Int32)), some (.int v), none] [] σ Q := by
  have hv : vp_in (σ.1 103 38) 2 := by rw [h]; exact vp_in_nI hb (by decide)
  have hk : Q none (sI σ 113 ((σ.1 103 38).toNatClampNeg) v) := by rw [h, nI_clamp (by omega)]; exact hq
  exact S_M_section_56 ⟨fun z => absurd z (by decide), fun z => absurd z (by decide), fun z => absurd z (by decide), fun z => absurd z (by decide), fun z => absurd z (by decide), fun z => absurd z (by decide), fun _ => ⟨hv, hk⟩, fun z => absurd z (by decide), fun z => absurd z (by decide), fun z => absurd z (by decide), trivial⟩
theorem m56_7 {σ : fkS} {v : Int32} {Q : Option Value → fkS → Prop} (hb : b < 2) (h : σ.1 103 38 = nI b) (hq : Q none (sI σ 114 b v)) : Wq 248 (d + 7) 56 [some (.ref 103), some (.int (7 : Int32)), some (.int v), none] [] σ Q := by
  have hv : vp_in (σ.1 103 38) 2 := by rw [h]; exact vp_in_nI hb (by decide)
  have hk : Q none (sI σ 114 ((σ.1 103 38).toNatClampNeg) v) := by rw [h, nI_clamp (by omega)]; exact hq
  exact S_M_section_56 ⟨fun z => absurd z (by decide), fun z => absurd z (by decide), fun z => absurd z (by decide), fun z => absurd z (by decide), fun z => absurd z (by decide), fun z => absurd z (by decide), fun z => absurd z (by decide), fun _ => ⟨hv, hk⟩, fun z => absurd z (by decide), fun z => absurd z (by decide), trivial⟩
theorem m56_9 {σ : fkS} {v : Int32} {Q : Option Value → fkS → Prop} (hb : b < 2) (h : σ.1 103 38 = nI b) (hq : Q none (sI σ 115 b v)) : Wq 248 (d + 7) 56 [some (.ref 103), some (.int (9 : Int32)), some (.int v), none] [] σ Q := by
  have hv : vp_in (σ.1 103 38) 2 := by rw [h]; exact vp_in_nI hb (by decide)
  have hk : Q none (sI σ 115 ((σ.1 103 38).toNatClampNeg) v) := by rw [h, nI_clamp (by omega)]; exact hq
  exact S_M_section_56 ⟨fun z => absurd z (by decide), fun z => absurd z (by decide), fun z => absurd z (by decide), fun z => absurd z (by decide), fun z => absurd z (by decide), fun z => absurd z (by decide), fun z => absurd z (by decide), fun z => absurd z (by decide), fun z => absurd z (by decide), fun _ => ⟨hv, hk⟩, trivial⟩
/-! frames -/
def sTb (b c j : Nat) : Bool := fM c j || (Nat.beq c 107 && bk 60 b j) || (Nat.beq c 108 && bk 3600 b j) || (Nat.beq c 109 && bk 60 b j) || (Nat.beq c 106 && Nat.beq j b)
theorem sT_sub {k : Nat} (hk : k < 60) : ∀ c j, sTM (60 * b + k) c j = true → sTb b c j = true := by
  intro c j h
  unfold sTM at h
  unfold sTb
  simp only [Bool.or_eq_true, Bool.and_eq_true] at h ⊢
  rcases h with ((h | h) | h) | h
  · exact Or.inl (Or.inl (Or.inl (Or.inl h)))
  · exact Or.inl (Or.inl (Or.inl (Or.inr ⟨h.1, bk_pt hk h.2⟩)))
  · exact Or.inl (Or.inl (Or.inr ⟨h.1, bk_sub hk h.2⟩))
  · exact Or.inl (Or.inr ⟨h.1, bk_pt hk h.2⟩)
theorem rT_other {k k2 : Nat} {x : Ty} {σ σ' : fkS} (hn : k2 ≠ k) (hx : x.2.1 ≤ 60) (h : rTM t (60 * b + k2) x σ) (f : Fr (sTM (60 * b + k)) σ σ') : rTM t (60 * b + k2) x σ' := by
  obtain ⟨h1, h2, h3⟩ := h
  have hne : Nat.beq (60 * b + k2) (60 * b + k) = false := beq_ne (by omega)
  refine ⟨(f 107 _ ?_).1.trans h1, fun j hj => (f 108 _ ?_).1.trans (h2 j hj), (f 109 _ ?_).1.trans h3⟩
  · unfold sTM
    rw [hne]
    rfl
  · unfold sTM
    rw [bk_out (by omega)]
    rfl
  · unfold sTM
    rw [hne]
    rfl
def rU1 (b k : Nat) (x : Nat) (σ : fkS) : Prop := σ.2.1 117 (60 * b + k) = lN x
def sU1 (X c j : Nat) : Bool := fM c j || (Nat.beq c 117 && Nat.beq j X)
def sUb (b c j : Nat) : Bool := fM c j || (Nat.beq c 117 && bk 60 b j) || (Nat.beq c 110 && Nat.beq j b)
def sAb (b c j : Nat) : Bool := fM c j || ((Nat.beq c 118 || Nat.beq c 119 || Nat.beq c 111) && Nat.beq j b)
def sMb (b c j : Nat) : Bool := fM c j || ((Nat.beq c 120 || Nat.beq c 121 || Nat.beq c 112) && Nat.beq j b)
def sGb (b c j : Nat) : Bool := sCM c j || ((Nat.beq c 126 || Nat.beq c 127 || Nat.beq c 128 || Nat.beq c 122) && bk 60 b j) || (Nat.beq c 113 && Nat.beq j b)
def sEb (b c j : Nat) : Bool := sNM c j || ((Nat.beq c 129 || Nat.beq c 130 || Nat.beq c 131 || Nat.beq c 123) && bk 60 b j) || (Nat.beq c 114 && Nat.beq j b)
def sLb (b c j : Nat) : Bool := sCM c j || ((Nat.beq c 132 || Nat.beq c 124 || Nat.beq c 133) && bk 60 b j) || (Nat.beq c 125 && bk 3600 b j) || (Nat.beq c 115 && Nat.beq j b)
theorem sU_sub {k : Nat} (hk : k < 60) : ∀ c j, sU1 (60 * b + k) c j = true → sUb b c j = true := by
  intro c j h
  unfold sU1 at h
  unfold sUb
  simp only [Bool.or_eq_true, Bool.and_eq_true] at h ⊢
  rcases h with h | h
  · exact Or.inl (Or.inl h)
  · exact Or.inl (Or.inr ⟨h.1, bk_pt hk h.2⟩)
theorem sA_sub {k : Nat} : ∀ c j, sL118 b k c j = true → sAb b c j = true := by
  intro c j h
  unfold sL118 at h
  unfold sAb
  simp only [Bool.or_eq_true, Bool.and_eq_true] at h ⊢
  grind
theorem sM_sub {k : Nat} : ∀ c j, sL120 b k c j = true → sMb b c j = true := by
  intro c j h
  unfold sL120 at h
  unfold sMb
  simp only [Bool.or_eq_true, Bool.and_eq_true] at h ⊢
  grind
theorem sG_sub {k : Nat} (hk : k < 60) : ∀ c j, sGM (60 * b + k) c j = true → sGb b c j = true := by
  intro c j h
  unfold sGM at h
  unfold sGb
  simp only [Bool.or_eq_true, Bool.and_eq_true] at h ⊢
  rcases h with h | h
  · exact Or.inl (Or.inl h)
  · exact Or.inl (Or.inr ⟨h.1, bk_pt hk h.2⟩)
theorem sE_sub {k : Nat} (hk : k < 60) : ∀ c j, sEM (60 * b + k) c j = true → sEb b c j = true := by
  intro c j h
  unfold sEM at h
  unfold sEb
  simp only [Bool.or_eq_true, Bool.and_eq_true] at h ⊢
  rcases h with h | h
  · exact Or.inl (Or.inl h)
  · exact Or.inl (Or.inr ⟨h.1, bk_pt hk h.2⟩)
theorem sL_sub {k : Nat} (hk : k < 60) : ∀ c j, sLM (60 * b + k) c j = true → sLb b c j = true := by
  intro c j h
  unfold sLM at h
  unfold sLb
  simp only [Bool.or_eq_true, Bool.and_eq_true] at h ⊢
  rcases h with (h | h) | h
  · exact Or.inl (Or.inl (Or.inl h))
  · exact Or.inl (Or.inl (Or.inr ⟨h.1, bk_pt hk h.2⟩))
  · exact Or.inl (Or.inr ⟨h.1, bk_sub hk h.2⟩)
theorem rU_other {k k2 : Nat} {x : Nat} {σ σ' : fkS} (hn : k2 ≠ k) (h : rU1 b k2 x σ) (f : Fr (sU1 (60 * b + k)) σ σ') : rU1 b k2 x σ' := by
  refine (f 117 _ ?_).2.1.trans h
  unfold sU1
  rw [beq_ne (show 60 * b + k2 ≠ 60 * b + k by omega)]
  rfl
theorem rA_other {k k2 : Nat} {x : Li} {σ σ' : fkS} (hn : k2 ≠ k) (h : rL118 b k2 x σ) (f : Fr (sL118 b k) σ σ') : rL118 b k2 x σ' := by
  intro h0
  have hk0 : Nat.beq k 0 = false := beq_ne (by omega)
  obtain ⟨a1, a2⟩ := h h0
  refine ⟨(f 118 _ ?_).2.1.trans a1, (f 119 _ ?_).2.1.trans a2⟩
  · unfold sL118
    rw [hk0]
    rfl
  · unfold sL118
    rw [hk0]
    rfl
theorem rM_other {k k2 : Nat} {x : Li} {σ σ' : fkS} (hn : k2 ≠ k) (h : rL120 b k2 x σ) (f : Fr (sL120 b k) σ σ') : rL120 b k2 x σ' := by
  intro h0
  have hk0 : Nat.beq k 0 = false := beq_ne (by omega)
  obtain ⟨a1, a2⟩ := h h0
  refine ⟨(f 120 _ ?_).2.1.trans a1, (f 121 _ ?_).2.1.trans a2⟩
  · unfold sL120
    rw [hk0]
    rfl
  · unfold sL120
    rw [hk0]
    rfl
theorem rG_other {k k2 : Nat} {x : Gl} {σ σ' : fkS} (hn : k2 ≠ k) (h : rGM (60 * b + k2) x σ) (f : Fr (sGM (60 * b + k)) σ σ') : rGM (60 * b + k2) x σ' := by
  obtain ⟨h1, h2, h3, h4⟩ := h
  have hne : Nat.beq (60 * b + k2) (60 * b + k) = false := beq_ne (by omega)
  refine ⟨(f 126 _ ?_).1.trans h1, (f 127 _ ?_).1.trans h2, (f 128 _ ?_).1.trans h3, (f 122 _ ?_).2.1.trans h4⟩
  all_goals
    unfold sGM
    rw [hne]
    rfl
theorem rE_other {k k2 : Nat} {x : Ex} {σ σ' : fkS} (hn : k2 ≠ k) (h : rEM (60 * b + k2) x σ) (f : Fr (sEM (60 * b + k)) σ σ') : rEM (60 * b + k2) x σ' := by
  obtain ⟨h1, h2, h3, h4⟩ := h
  have hne : Nat.beq (60 * b + k2) (60 * b + k) = false := beq_ne (by omega)
  refine ⟨(f 129 _ ?_).1.trans h1, (f 130 _ ?_).1.trans h2, (f 131 _ ?_).1.trans h3, (f 123 _ ?_).2.1.trans h4⟩
  all_goals
    unfold sEM
    rw [hne]
    rfl
theorem rL_other {k k2 : Nat} {x : El} {σ σ' : fkS} (hn : k2 ≠ k) (hx : x.2.2.length ≤ 60) (h : rLM (60 * b + k2) x σ) (f : Fr (sLM (60 * b + k)) σ σ') : rLM (60 * b + k2) x σ' := by
  obtain ⟨h1, h2, h3, h4⟩ := h
  have hne : Nat.beq (60 * b + k2) (60 * b + k) = false := beq_ne (by omega)
  refine ⟨(f 132 _ ?_).1.trans h1, (f 124 _ ?_).2.1.trans h2, (f 133 _ ?_).1.trans h3, fun j y hy => (f 125 _ ?_).2.1.trans (h4 j y hy)⟩
  · unfold sLM
    rw [hne]
    rfl
  · unfold sLM
    rw [hne]
    rfl
  · unfold sLM
    rw [hne]
    rfl
  · have := (List.getElem?_eq_some_iff.mp hy).1
    unfold sLM
    rw [bk_out (by omega)]
    rfl
/-! things -/
theorem pTy_n {p q : Nat} {x : Ty} (h : pTy t e p = .inl (x, q)) : x.2.1 ≤ 60 := by
  unfold pTy at h
  obtain ⟨_, p1, h1, h⟩ := bR_inl h
  obtain ⟨m, p2, h2, h⟩ := bR_inl h
  obtain ⟨_, p3, h3, h⟩ := bR_inl h
  unfold pTy3 at h
  obtain ⟨v, p4, h4, h⟩ := bR_inl h
  have := (nV_l h2).2.1
  unfold pTy4 at h
  split at h
  · split at h
    · obtain ⟨g, p5, h5, h⟩ := bR_inl h
      cases h
      exact this
    · cases h
      exact this
  · cases h
theorem m_thing1 {k p : Nat} {σ : fkS} (hk : k < 60) (h : RM t b n e p σ) (hf : σ.1 103 42 = 0) : Cv (d + 6) 251 [.ref 103, .int (1 : Int32), .int (nI k)] σ (fun σ' => YM t b n e (sTM (60 * b + k)) (fun x σ' => x.2.1 ≤ 60 ∧ rTM t (60 * b + k) x σ') (pTy t e p) σ σ') := by
  have hb := h.1
  refine S_M_thing ⟨fun z => absurd z (by decide), fun _ => ?_, fun z => absurd z (by decide), fun z => absurd z (by decide), fun z => absurd z (by decide), fun z => absurd z (by decide), fun z => absurd z (by decide), fun z => absurd z (by decide), fun z => absurd z (by decide), fun z => absurd z (by decide), trivial⟩
  rw [h.2.1, ex]
  refine (m_type (d := d + 1) (X := 60 * b + k) (by omega) h hf).mono fun x σ1 hx => ?_
  obtain ⟨rfl, f1, hu⟩ := Qv_s hx
  refine ⟨f1, ?_⟩
  cases hP : pTy t e p with
  | inl y =>
    obtain ⟨x, q⟩ := y
    rw [hP] at hu
    exact ⟨⟨pTy_n hP, hu.1⟩, hu.2⟩
  | inr y =>
    rw [hP] at hu
    exact hu
theorem m_thing3 {k p : Nat} {σ : fkS} (hk : k < 60) (h : RM t b n e p σ) (hf : σ.1 103 42 = 0) : Cv (d + 6) 251 [.ref 103, .int (3 : Int32), .int (nI k)] σ (fun σ' => YM t b n e (sU1 (60 * b + k)) (rU1 b k) (nU t e p) σ σ') := by
  have hb := h.1
  have s1 : sU1 (60 * b + k) 117 (60 * b + k) = true := by unfold sU1; simp
  have s2 : ∀ {σ σ' : fkS}, Fr fM σ σ' → Fr (sU1 (60 * b + k)) σ σ' := fun h => h.mono fun c j h => by unfold sU1; rw [h]; rfl
  refine S_M_thing ⟨fun z => absurd z (by decide), fun z => absurd z (by decide), fun z => absurd z (by decide), fun _ => ?_, fun z => absurd z (by decide), fun z => absurd z (by decide), fun z => absurd z (by decide), fun z => absurd z (by decide), fun z => absurd z (by decide), fun z => absurd z (by decide), trivial⟩
  rw [h.2.1, ex, nI_clamp (by omega)]
  refine qJ h hf (mU h hf) (fun x q r hR hv hR1 hf1 => ?_) fun w pl r σ1 hR hr0 hZ f1 => ?_
  · subst hv
    refine ⟨vp_in_nI (by omega) (by decide), (s2 okM_fr).sL s1, ?_⟩
    rw [hR]
    exact ⟨sL_ss, hR1.sL, hf1⟩
  · refine ⟨vp_in_nI (by omega) (by decide), (s2 f1).sL s1, ?_⟩
    rw [hR]
    exact hZ.sL
theorem m_thing4 {k p : Nat} {σ : fkS} (hk : k < 60) (h : RM t b n e p σ) (hf : σ.1 103 42 = 0) : Cv (d + 6) 251 [.ref 103, .int (4 : Int32), .int (nI k)] σ (fun σ' => YM t b n e (sL118 b k) (rL118 b k) (pTab t e p) σ σ') := by
  refine S_M_thing ⟨fun z => absurd z (by decide), fun z => absurd z (by decide), fun z => absurd z (by decide), fun z => absurd z (by decide), fun _ => ?_, fun z => absurd z (by decide), fun z => absurd z (by decide), fun z => absurd z (by decide), fun z => absurd z (by decide), fun z => absurd z (by decide), trivial⟩
  refine qV h hf (c_must (d := d + 2) h hf) (fun _ q hR hR1 hf1 => ?_) fun w pl σ1 hR hZ f1 => ?_
  · have hp : pTab t e p = pLi t e q := by unfold pTab; rw [hR]; rfl
    refine qY (m_limits118 (d := d + 2) hk hR1 hf1) (fun x q2 σ2 hP f2 hx hR2 hf2 => ?_) fun w pl σ2 hP f2 hZ => ?_
    · refine ⟨okM_fr.fL118.tr f2, ?_⟩
      rw [hp, hP]
      exact ⟨hx, hR2, hf2⟩
    · refine ⟨okM_fr.fL118.tr f2, ?_⟩
      rw [hp, hP]
      exact hZ
  · have hp : pTab t e p = .inr (w, pl) := by unfold pTab; rw [hR]; rfl
    have hb : b < 2 := hZ.1.choose_spec.1
    have fin : ∀ (σ2 : fkS), Fr (sL118 b k) σ1 σ2 → σ2.1 = σ1.1 → (Qv fun σ' => YM t b n e (sL118 b k) (rL118 b k) (pTab t e p) σ σ') none σ2 := by
      intro σ2 f2 e2
      refine ⟨f1.fL118.tr f2, ?_⟩
      rw [hp]
      obtain ⟨⟨q, a0, a1, a2, a3, a4, a5, a6, a7⟩, b1, b2, b3⟩ := hZ
      refine ⟨⟨q, a0, ?_, ?_, a3, a4, ?_, ?_, a7⟩, b1, ?_, ?_⟩ <;> rw [e2] <;> assumption
    refine S_M_limits (y0I (m01z (d := d + 2) hZ) ?_)
    refine y0J (c_u32_z (d := d + 3) hZ.nz) ?_
    have h38 := hZ.1.choose_spec.2.1
    exact ⟨fun _ => w_lim118 (d := d + 2) hk hb h38 fun σ4 f4 e4 _ => fin σ4 f4 e4, fun _ => y0J (c_u32_z (d := d + 3) hZ.nz) (w_lim118 (d := d + 2) hk hb h38 fun σ4 f4 e4 _ => fin σ4 f4 e4)⟩
theorem m_thing5 {k p : Nat} {σ : fkS} (hk : k < 60) (h : RM t b n e p σ) (hf : σ.1 103 42 = 0) : Cv (d + 6) 251 [.ref 103, .int (5 : Int32), .int (nI k)] σ (fun σ' => YM t b n e (sL120 b k) (rL120 b k) (pLi t e p) σ σ') := by
  refine S_M_thing ⟨fun z => absurd z (by decide), fun z => absurd z (by decide), fun z => absurd z (by decide), fun z => absurd z (by decide), fun z => absurd z (by decide), fun _ => ?_, fun z => absurd z (by decide), fun z => absurd z (by decide), fun z => absurd z (by decide), fun z => absurd z (by decide), trivial⟩
  refine (m_limits120 (d := d + 2) hk h hf).mono fun x σ1 hx => ?_
  obtain ⟨rfl, hu⟩ := Qv_s hx
  exact hu
theorem m_thing9 {k p : Nat} {σ : fkS} (hk : k < 60) (h : RM t b n e p σ) (hf : σ.1 103 42 = 0) : Cv (d + 6) 251 [.ref 103, .int (9 : Int32), .int (nI k)] σ (fun σ' => YM t b n e (sLM (60 * b + k)) (fun x σ' => x.2.2.length ≤ 60 ∧ rLM (60 * b + k) x σ') (pEl t e p) σ σ') := by
  have hb := h.1
  refine S_M_thing ⟨fun z => absurd z (by decide), fun z => absurd z (by decide), fun z => absurd z (by decide), fun z => absurd z (by decide), fun z => absurd z (by decide), fun z => absurd z (by decide), fun z => absurd z (by decide), fun z => absurd z (by decide), fun z => absurd z (by decide), fun _ => ?_, trivial⟩
  rw [h.2.1, ex]
  refine (m_element (d := d) (X := 60 * b + k) (by omega) h hf).mono fun x σ1 hx => ?_
  obtain ⟨rfl, f1, hu⟩ := Qv_s hx
  refine ⟨f1, ?_⟩
  cases hP : pEl t e p with
  | inl y =>
    obtain ⟨x, q⟩ := y
    rw [hP] at hu
    exact ⟨⟨(pEl_le hP).2, hu.1⟩, hu.2⟩
  | inr y =>
    rw [hP] at hu
    exact hu
def qT (t : Nat → UInt8) (b k : Nat) (x : Ty) (σ : fkS) : Prop := x.2.1 ≤ 60 ∧ rTM t (60 * b + k) x σ
def MT (t : Nat → UInt8) (b : Nat) (l : List Ty) (σ : fkS) : Prop := (∀ (k : Nat) (x : Ty), l[k]? = some x → qT t b k x σ) ∧ σ.1 106 b = nI l.length
theorem m_sec1 {p : Nat} {σ : fkS} (h : RM t b n e p σ) (hf : σ.1 103 42 = 0) : Cv (d + 7) 248 [.ref 103, .int (1 : Int32)] σ (fun σ' => YM t b n e (sTb b) (MT t b) (pVc t e (pTy t e) p) σ σ') :=
  w_msec (d := d) (r := fun k x σ => qT t b k x σ) (s := fun k => sTM (60 * b + k)) (S := sTb b) (P := pTy t e) (id := (1 : Int32)) (cc := 106) (by decide) h hf (fun c j h => by unfold sTb; rw [h]; rfl) (by unfold sTb; simp) rfl (fun k hk => sT_sub hk) (fun k k2 x σ σ' hn _ _ h f => ⟨h.1, rT_other hn h.1 h.2 f⟩) (fun k x σ v h => h) (fun k p σ hk h hf => m_thing1 (d := d) hk h hf) fun σ v Q h38 hq => m56_1 h.1 h38 hq
def qU (b k : Nat) (x : Nat) (σ : fkS) : Prop := rU1 b k x σ
def MU (b : Nat) (l : List Nat) (σ : fkS) : Prop := (∀ (k : Nat) (x : Nat), l[k]? = some x → qU b k x σ) ∧ σ.1 110 b = nI l.length
theorem m_sec3 {p : Nat} {σ : fkS} (h : RM t b n e p σ) (hf : σ.1 103 42 = 0) : Cv (d + 7) 248 [.ref 103, .int (3 : Int32)] σ (fun σ' => YM t b n e (sUb b) (MU b) (pVc t e (nU t e) p) σ σ') :=
  w_msec (d := d) (r := fun k x σ => qU b k x σ) (s := fun k => sU1 (60 * b + k)) (S := sUb b) (P := nU t e) (id := (3 : Int32)) (cc := 110) (by decide) h hf (fun c j h => by unfold sUb; rw [h]; rfl) (by unfold sUb; simp) rfl (fun k hk => sU_sub hk) (fun k k2 x σ σ' hn _ _ h f => rU_other hn h f) (fun k x σ v h => h) (fun k p σ hk h hf => m_thing3 (d := d) hk h hf) fun σ v Q h38 hq => m56_3 h.1 h38 hq
def qA (b k : Nat) (x : Li) (σ : fkS) : Prop := rL118 b k x σ
def MA (b : Nat) (l : List Li) (σ : fkS) : Prop := (∀ (k : Nat) (x : Li), l[k]? = some x → qA b k x σ) ∧ σ.1 111 b = nI l.length
theorem m_sec4 {p : Nat} {σ : fkS} (h : RM t b n e p σ) (hf : σ.1 103 42 = 0) : Cv (d + 7) 248 [.ref 103, .int (4 : Int32)] σ (fun σ' => YM t b n e (sAb b) (MA b) (pVc t e (pTab t e) p) σ σ') :=
  w_msec (d := d) (r := fun k x σ => qA b k x σ) (s := fun k => sL118 b k) (S := sAb b) (P := pTab t e) (id := (4 : Int32)) (cc := 111) (by decide) h hf (fun c j h => by unfold sAb; rw [h]; rfl) (by unfold sAb; simp) rfl (fun k _ => sA_sub) (fun k k2 x σ σ' hn _ _ h f => rA_other hn h f) (fun k x σ v h => h) (fun k p σ hk h hf => m_thing4 (d := d) hk h hf) fun σ v Q h38 hq => m56_4 h.1 h38 hq
def qM (b k : Nat) (x : Li) (σ : fkS) : Prop := rL120 b k x σ
def MM (b : Nat) (l : List Li) (σ : fkS) : Prop := (∀ (k : Nat) (x : Li), l[k]? = some x → qM b k x σ) ∧ σ.1 112 b = nI l.length
theorem m_sec5 {p : Nat} {σ : fkS} (h : RM t b n e p σ) (hf : σ.1 103 42 = 0) : Cv (d + 7) 248 [.ref 103, .int (5 : Int32)] σ (fun σ' => YM t b n e (sMb b) (MM b) (pVc t e (pLi t e) p) σ σ') :=
  w_msec (d := d) (r := fun k x σ => qM b k x σ) (s := fun k => sL120 b k) (S := sMb b) (P := pLi t e) (id := (5 : Int32)) (cc := 112) (by decide) h hf (fun c j h => by unfold sMb; rw [h]; rfl) (by unfold sMb; simp) rfl (fun k _ => sM_sub) (fun k k2 x σ σ' hn _ _ h f => rM_other hn h f) (fun k x σ v h => h) (fun k p σ hk h hf => m_thing5 (d := d) hk h hf) fun σ v Q h38 hq => m56_5 h.1 h38 hq
def qG (b k : Nat) (x : Gl) (σ : fkS) : Prop := rGM (60 * b + k) x σ
def MG (b : Nat) (l : List Gl) (σ : fkS) : Prop := (∀ (k : Nat) (x : Gl), l[k]? = some x → qG b k x σ) ∧ σ.1 113 b = nI l.length
theorem m_sec6 {p : Nat} {σ : fkS} (h : RM t b n e p σ) (hf : σ.1 103 42 = 0) : Cv (d + 7) 248 [.ref 103, .int (6 : Int32)] σ (fun σ' => YM t b n e (sGb b) (MG b) (pVc t e (pGl t e) p) σ σ') :=
  w_msec (d := d) (r := fun k x σ => qG b k x σ) (s := fun k => sGM (60 * b + k)) (S := sGb b) (P := pGl t e) (id := (6 : Int32)) (cc := 113) (by decide) h hf (fun c j h => by unfold sGb sCM; rw [h]; rfl) (by unfold sGb; simp) rfl (fun k hk => sG_sub hk) (fun k k2 x σ σ' hn _ _ h f => rG_other hn h f) (fun k x σ v h => h) (fun k p σ hk h hf => m_thing6 (d := d + 1) hk h hf) fun σ v Q h38 hq => m56_6 h.1 h38 hq
def qE (b k : Nat) (x : Ex) (σ : fkS) : Prop := rEM (60 * b + k) x σ
def ME (b : Nat) (l : List Ex) (σ : fkS) : Prop := (∀ (k : Nat) (x : Ex), l[k]? = some x → qE b k x σ) ∧ σ.1 114 b = nI l.length
theorem m_sec7 {p : Nat} {σ : fkS} (h : RM t b n e p σ) (hf : σ.1 103 42 = 0) : Cv (d + 7) 248 [.ref 103, .int (7 : Int32)] σ (fun σ' => YM t b n e (sEb b) (ME b) (pVc t e (pEx t e) p) σ σ') :=
  w_msec (d := d) (r := fun k x σ => qE b k x σ) (s := fun k => sEM (60 * b + k)) (S := sEb b) (P := pEx t e) (id := (7 : Int32)) (cc := 114) (by decide) h hf (fun c j h => by unfold sEb sNM; rw [h]; rfl) (by unfold sEb; simp) rfl (fun k hk => sE_sub hk) (fun k k2 x σ σ' hn _ _ h f => rE_other hn h f) (fun k x σ v h => h) (fun k p σ hk h hf => m_thing7 (d := d + 1) hk h hf) fun σ v Q h38 hq => m56_7 h.1 h38 hq
def qL (b k : Nat) (x : El) (σ : fkS) : Prop := x.2.2.length ≤ 60 ∧ rLM (60 * b + k) x σ
def ML (b : Nat) (l : List El) (σ : fkS) : Prop := (∀ (k : Nat) (x : El), l[k]? = some x → qL b k x σ) ∧ σ.1 115 b = nI l.length
theorem m_sec9 {p : Nat} {σ : fkS} (h : RM t b n e p σ) (hf : σ.1 103 42 = 0) : Cv (d + 7) 248 [.ref 103, .int (9 : Int32)] σ (fun σ' => YM t b n e (sLb b) (ML b) (pVc t e (pEl t e) p) σ σ') :=
  w_msec (d := d) (r := fun k x σ => qL b k x σ) (s := fun k => sLM (60 * b + k)) (S := sLb b) (P := pEl t e) (id := (9 : Int32)) (cc := 115) (by decide) h hf (fun c j h => by unfold sLb sCM; rw [h]; rfl) (by unfold sLb; simp) rfl (fun k hk => sL_sub hk) (fun k k2 x σ σ' hn _ _ h f => ⟨h.1, rL_other hn h.1 h.2 f⟩) (fun k x σ v h => h) (fun k p σ hk h hf => m_thing9 (d := d) hk h hf) fun σ v Q h38 hq => m56_9 h.1 h38 hq
end SC2
