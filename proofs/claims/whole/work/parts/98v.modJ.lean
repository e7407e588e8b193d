/-! WHAT IS KEPT OF A MODULE on both sides; banks of the reference's rows -/
theorem pMd_len {t : Nat → UInt8} {n : Nat} : ∀ (f last p : Nat) (m m2 : Md) (q : Nat), pMd t n f last m p = .inl (m2, q) → lenM m → emp m last → lenM m2
  | 0, _, _, _, _, _, h, _, _ => by cases h
  | f + 1, last, p, m, m2, q, h, hm, he => by
    rw [pMd] at h
    split at h
    · cases h
      exact hm
    · obtain ⟨x, q1, h1, h⟩ := bR_inl h
      obtain ⟨m3, q3, h3, h⟩ := bR_inl h
      split at h
      · cases h
      · obtain ⟨i1, i2, -⟩ := pId_l (id := x.1) (B := x.2) h1
        obtain ⟨s1, s2⟩ := pSe_l h3 hm he i1 i2
        exact pMd_len f _ _ _ _ _ h s1 s2
theorem pMo_len {t : Nat → UInt8} {n q : Nat} {m : Md} (h : pMo t n = .inl (m, q)) : lenM m := by
  unfold pMo at h
  obtain ⟨_, p, h1, h⟩ := bR_inl h
  obtain ⟨m1, p1, h2, h⟩ := bR_inl h
  have := pMd_len _ _ _ _ _ _ h2 (by unfold lenM; decide) ⟨fun _ => rfl, fun _ => rfl, fun _ => rfl, fun _ => rfl, fun _ => rfl, fun _ => rfl, fun _ => rfl, fun _ => rfl⟩
  unfold pEnd at h
  split at h
  · cases h
    exact this
  · cases h
/-- all that is known of a module that is kept -/
def okK (t : Nat → UInt8) (n : Nat) (m : Md) : Prop := lenM m ∧ fcM t n m ∧ okMd m ∧ rdM t n m ∧ vdM t m = 0 ∧ n ≤ 4000 ∧ (mdC m).2.length ≤ 4000 ∧ (elAll (mdL m)).length ≤ 4000 ∧ mkOk m = true
/-- what a bank's frame leaves alone -/
def bkF0 (b : Nat) (S : Nat → Nat → Bool) : Prop := (∀ c k, 105 ≤ c → c ≤ 138 → k < 60 → S c (60 * b + k) = true → c = 108 ∨ c = 125 ∨ c = 135 ∨ c = 105 ∨ c = 137 ∨ c = 138 ∨ c = 106 ∨ (110 ≤ c ∧ c ≤ 116) ∨ (118 ≤ c ∧ c ≤ 121)) ∧ (∀ c j, c = 108 ∨ c = 125 → j < 3600 → S c (3600 * b + j) = false) ∧ (∀ j, j < 3000 → S 135 (3000 * b + j) = false) ∧ (∀ c j, c = 105 ∨ c = 137 ∨ c = 138 → j < 4000 → S c (4000 * b + j) = false) ∧ ∀ c, c = 106 ∨ (110 ≤ c ∧ c ≤ 116) ∨ (118 ≤ c ∧ c ≤ 121) → S c b = false
theorem bkF0.k {b : Nat} {S : Nat → Nat → Bool} (h : bkF0 b S) {c k : Nat} (hc : 105 ≤ c ∧ c ≤ 138) (hk : k < 60) (hn : ¬ (c = 108 ∨ c = 125 ∨ c = 135 ∨ c = 105 ∨ c = 137 ∨ c = 138 ∨ c = 106 ∨ (110 ≤ c ∧ c ≤ 116) ∨ (118 ≤ c ∧ c ≤ 121))) : S c (60 * b + k) = false := by
  cases hs : S c (60 * b + k)
  · rfl
  · exact absurd (h.1 c k hc.1 hc.2 hk hs) hn
theorem MX.frB {t : Nat → UInt8} {b : Nat} {m : Md} {S : Nat → Nat → Bool} {σ σ' : fkS} (h : MX t b m σ) (hl : lenM m) (f : Fr S σ σ') (h0 : bkF0 b S) : MX t b m σ' := by
  obtain ⟨hT, hU, hA, hM, hG, hE, hL, hC⟩ := h
  obtain ⟨lT, lU, lA, lM, lG, lE, lL, lC⟩ := hl
  have z : ∀ {c k}, (105 ≤ c ∧ c ≤ 138) → ¬ (c = 108 ∨ c = 125 ∨ c = 135 ∨ c = 105 ∨ c = 137 ∨ c = 138 ∨ c = 106 ∨ (110 ≤ c ∧ c ≤ 116) ∨ (118 ≤ c ∧ c ≤ 121)) → k < 60 → S c (60 * b + k) = false := fun {c k} a1 a2 hk => h0.k a1 hk a2
  have y : ∀ {c k j}, (c = 108 ∨ c = 125) → k < 60 → j < 60 → S c (60 * (60 * b + k) + j) = false := fun {c k j} hc hk hj => by
    have := h0.2.1 c (60 * k + j) hc (by omega)
    rw [show 60 * (60 * b + k) + j = 3600 * b + (60 * k + j) by omega]
    exact this
  have x : ∀ {k j}, k < 60 → j < 50 → S 135 (50 * (60 * b + k) + j) = false := fun {k j} hk hj => by
    have := h0.2.2.1 (50 * k + j) (by omega)
    rw [show 50 * (60 * b + k) + j = 3000 * b + (50 * k + j) by omega]
    exact this
  have w : ∀ {c}, (c = 106 ∨ (110 ≤ c ∧ c ≤ 116) ∨ (118 ≤ c ∧ c ≤ 121)) → S c b = false := fun {c} => h0.2.2.2.2 c
  exact ⟨hT.fr lT f (fun _ => z (by decide) (by decide)) (fun _ _ => y (by decide)) (fun _ => z (by decide) (by decide)) (w (by decide)), hU.fr lU f (fun _ => z (by decide) (by decide)) (w (by decide)), hA.fr lA f (w (by decide)) (w (by decide)) (w (by decide)), hM.fr lM f (w (by decide)) (w (by decide)) (w (by decide)), hG.fr lG f (fun _ => z (by decide) (by decide)) (fun _ => z (by decide) (by decide)) (fun _ => z (by decide) (by decide)) (fun _ => z (by decide) (by decide)) (w (by decide)), hE.fr lE f (fun _ => z (by decide) (by decide)) (fun _ => z (by decide) (by decide)) (fun _ => z (by decide) (by decide)) (fun _ => z (by decide) (by decide)) (w (by decide)), hL.fr lL f (fun _ => z (by decide) (by decide)) (fun _ => z (by decide) (by decide)) (fun _ => z (by decide) (by decide)) (fun _ _ => y (by decide)) (w (by decide)), hC.fr lC f (fun _ => z (by decide) (by decide)) (fun _ _ => x) (fun _ => z (by decide) (by decide)) (fun j => h0.2.2.2.1 137 j (by decide)) (fun j => h0.2.2.2.1 138 j (by decide)) (w (by decide))⟩
/-- what a module that is not kept changes in the reference -/
def sMF (b c j : Nat) : Bool := sMX b c j || sMv c j || (Nat.beq c 103 && (Nat.beq j 1 || Nat.beq j 2 || Nat.beq j 38 || Nat.beq j 58)) || (Nat.beq c 105 && bk 4000 b j)
theorem sMF_bk {b b2 : Nat} (h : b2 ≠ b) : bkF0 b2 (sMF b) := by
  have h60 : ∀ k, k < 60 → bk 60 b (60 * b2 + k) = false := fun k hk => bk_out (by omega)
  have h36 : ∀ k, k < 3600 → bk 3600 b (3600 * b2 + k) = false := fun k hk => bk_out (by omega)
  have h30 : ∀ k, k < 3000 → bk 3000 b (3000 * b2 + k) = false := fun k hk => bk_out (by omega)
  have h40 : ∀ k, k < 4000 → bk 4000 b (4000 * b2 + k) = false := fun k hk => bk_out (by omega)
  have hbb : Nat.beq b2 b = false := beq_ne h
  have hmid : ∀ c j, 105 ≤ c → c ≤ 138 → sMv c j = false := fun c j h1 h2 => sMv_mid (by omega) (by omega)
  have hfM : ∀ c j, 105 ≤ c → fM c j = false := fun c j h1 => fM_hi (by omega)
  have h103 : ∀ c, 105 ≤ c → Nat.beq c 103 = false := fun c h1 => beq_ne (by omega)
  have h139 : ∀ c, c ≤ 138 → Nat.beq c 139 = false := fun c h1 => beq_ne (by omega)
  refine ⟨fun c k h1 h2 hk hs => ?_, fun c j hc hj => ?_, fun j hj => ?_, fun c j hc hj => ?_, fun c hc => ?_⟩
  · unfold sMF sMX sTb sUb sAb sMb sGb sEb sLb sCb sXE sCM sNM at hs
    simp only [hmid c _ h1 h2, hfM c _ h1, h103 c h1, h139 c h2, h60 k hk, Bool.and_false, Bool.false_and, Bool.or_false, Bool.false_or, Bool.or_eq_true, Bool.and_eq_true, Nat.beq_eq] at hs
    omega
  · rcases hc with rfl | rfl
    · unfold sMF sMX sTb sUb sAb sMb sGb sEb sLb sCb
      rw [h36 j hj]
      rfl
    · unfold sMF sMX sTb sUb sAb sMb sGb sEb sLb sCb
      rw [h36 j hj]
      rfl
  · unfold sMF sMX sTb sUb sAb sMb sGb sEb sLb sCb
    rw [h30 j hj]
    rfl
  · rcases hc with rfl | rfl | rfl
    · unfold sMF sMX sTb sUb sAb sMb sGb sEb sLb sCb sXE
      rw [h40 j hj]
      rfl
    · unfold sMF sMX sTb sUb sAb sMb sGb sEb sLb sCb sXE
      rw [h40 j hj]
      rfl
    · unfold sMF sMX sTb sUb sAb sMb sGb sEb sLb sCb sXE
      rw [h40 j hj]
      rfl
  · have h1 : 105 ≤ c := by omega
    have h2 : c ≤ 138 := by omega
    unfold sMF sMX sTb sUb sAb sMb sGb sEb sLb sCb sXE sCM sNM
    simp only [hmid c _ h1 h2, hfM c _ h1, h103 c h1, h139 c h2, hbb, Bool.and_false, Bool.false_and, Bool.or_false, Bool.false_or]
    have n : ∀ d, c ≠ d → Nat.beq c d = false := fun d hd => beq_ne hd
    rw [n 107 (by omega), n 108 (by omega), n 109 (by omega), n 117 (by omega), n 126 (by omega), n 127 (by omega), n 128 (by omega), n 122 (by omega), n 129 (by omega), n 130 (by omega), n 131 (by omega), n 123 (by omega), n 132 (by omega), n 124 (by omega), n 133 (by omega), n 125 (by omega), n 137 (by omega), n 138 (by omega), n 134 (by omega), n 136 (by omega), n 135 (by omega), n 105 (by omega)]
    rfl
/-- byte k of a word -/
def by8 (x : Int64) (k : Nat) : UInt8 := ⟨(x.toBitVec >>> (8 * k)).setWidth 8⟩
/-- MEMORY, TABLE and GLOBALS as they are now, both sides; p pages -/
def VM (m : Md) (p : Nat) (mm : Nat → UInt8) (σ : fkS) : Prop := p ≤ 2 ∧ σ.1 56 4 = nI p ∧ σ.1 103 62 = nI p ∧ (∀ i, i < 131072 → by8 (σ.2.1 58 (i / 8)) (i % 8) = mm i ∧ σ.1 148 i = bI (mm i)) ∧ σ.1 56 6 = nI (tbN m) ∧ (∀ k, k < 100 → σ.1 59 k = tbF (mdL m) k ∧ σ.1 147 k = tbF (mdL m) k) ∧ ∀ k, k < (mdG m).length → σ.2.1 57 k = σ.2.1 146 k
/-- a value as its type keeps it -/
def can (ty : Nat) (v : Int64) : Prop := ty = 127 → c32 v
/-- the module that is kept, on both sides -/
def KP (t : Nat → UInt8) (n : Nat) (m : Md) (b : Nat) (σ : fkS) : Prop := σ.1 0 5 = 1 ∧ σ.1 103 39 = 1 ∧ b < 2 ∧ σ.1 103 37 = nI b ∧ okK t n m ∧ DY t n m (rnS swM σ) ∧ rvdA t m (mdU m).length (rnS swM σ) ∧ MX t b m σ ∧ (∀ k, k < n → σ.1 105 (4000 * b + k) = bI (t k)) ∧ σ.2.2 56 0 = 4 ∧ σ.2.2 56 1 = 16 ∧ (∃ p mm, VM m p mm σ) ∧ ∀ (k : Nat) (x : Gl), (mdG m)[k]? = some x → can x.1 (σ.2.1 146 k)
def KN (σ : fkS) : Prop := (σ.1 0 5 = 0 ∧ σ.1 103 39 = 0 ∧ ∃ b, b < 2 ∧ σ.1 103 37 = nI b) ∨ ∃ t n m b, KP t n m b σ
/-- the cells that the kept module lives in -/
def kK (c j : Nat) : Bool := (Nat.beq c 0 && Nat.beq j 5) || (Nat.ble 3 c && Nat.ble c 23) || (Nat.beq c 56 && (Nat.beq j 0 || Nat.beq j 1 || Nat.beq j 4 || Nat.beq j 6)) || (Nat.ble 57 c && Nat.ble c 59) || (Nat.beq c 103 && (Nat.beq j 37 || Nat.beq j 39 || Nat.beq j 62)) || (Nat.ble 146 c && Nat.ble c 148)
theorem DY.eq {t : Nat → UInt8} {n : Nat} {m : Md} {σ σ' : fkS} (h : DY t n m σ) (h1 : ∀ c j, 24 ≤ c → c < 44 → σ'.1 c j = σ.1 c j ∧ σ'.2.1 c j = σ.2.1 c j) : DY t n m σ' := by
  have e1 : ∀ c, 24 ≤ c → c < 44 → σ'.1 c = σ.1 c := fun c a b => funext fun j => (h1 c j a b).1
  have e2 : ∀ c, 24 ≤ c → c < 44 → σ'.2.1 c = σ.2.1 c := fun c a b => funext fun j => (h1 c j a b).2
  obtain ⟨a1, a2, a3, a4, a5, a6, a7, a8, a9, a10, a11⟩ := h
  have g : ∀ c j, 24 ≤ c → c < 44 → σ'.1 c j = σ.1 c j := fun c j a b => (h1 c j a b).1
  have g2 : ∀ c j, 24 ≤ c → c < 44 → σ'.2.1 c j = σ.2.1 c j := fun c j a b => (h1 c j a b).2
  -- by a state that has the refs of σ
  have hS : DY t n m (σ'.1, σ'.2.1, σ.2.2) := DY.fr (S := fun c _ => !(Nat.ble 24 c && Nat.blt c 44)) ⟨a1, a2, a3, a4, a5, a6, a7, a8, a9, a10, a11⟩ (fun c j hcj => by
    have : 24 ≤ c ∧ c < 44 := by
      have h9 : (Nat.ble 24 c && Nat.blt c 44) = true := by
        cases hh : (Nat.ble 24 c && Nat.blt c 44)
        · rw [show (fun c _ => !(Nat.ble 24 c && Nat.blt c 44)) c j = !(Nat.ble 24 c && Nat.blt c 44) from rfl, hh] at hcj
          cases hcj
        · rfl
      rw [Bool.and_eq_true] at h9
      exact ⟨Nat.le_of_ble_eq_true h9.1, Nat.le_of_ble_eq_true h9.2⟩
    exact ⟨g c j this.1 this.2, g2 c j this.1 this.2, rfl⟩) fun c j h1 h2 => by
      show (!(Nat.ble 24 c && Nat.blt c 44)) = false
      rw [Nat.ble_eq_true_of_le h1, show Nat.blt c 44 = true from Nat.ble_eq_true_of_le h2]
      rfl
  exact hS
theorem swM_hi {c : Nat} (h1 : 24 ≤ c) (h2 : c < 45) : swM c = c - 21 := by
  unfold swM
  rw [swp_eq, if_neg (by omega), if_pos (by omega)]
theorem swM_lo {c : Nat} (h1 : 3 ≤ c) (h2 : c < 24) : swM c = c + 21 := by
  unfold swM
  rw [swp_eq, if_pos (by omega)]
theorem swM_out {c : Nat} (h : c < 3 ∨ 45 ≤ c) : swM c = c := by
  unfold swM
  rw [swp_eq, if_neg (by omega), if_neg (by omega)]
theorem rnR_rnR (r : Nat) : rnR swM (rnR swM r) = r := by
  cases r with
  | zero => rfl
  | succ r => exact congrArg (· + 1) (swp_inv (lo := 3) (hi := 24) (n := 21) (by decide) r)
theorem rnS_rnS (σ : fkS) : rnS swM (rnS swM σ) = σ := by
  have h : ∀ k, swM (swM k) = k := swp_inv (by decide)
  refine Prod.ext (funext fun k => ?_) (Prod.ext (funext fun k => ?_) (funext fun k => funext fun j => ?_))
  · show σ.1 (swM (swM k)) = σ.1 k
    rw [h]
  · show σ.2.1 (swM (swM k)) = σ.2.1 k
    rw [h]
  · show rnR swM (rnR swM (σ.2.2 (swM (swM k)) j)) = σ.2.2 k j
    rw [h, rnR_rnR]
theorem rLab.eq {C : List In} {e l : Nat} {b : Bk} {σ σ' : fkS} (h : rLab C e b l σ) (h1 : ∀ j, σ'.1 44 j = σ.1 44 j) : rLab C e b l σ' := ⟨(h1 _).trans h.1, (h1 _).trans h.2.1, (h1 _).trans h.2.2⟩
theorem rvdA.eq {t : Nat → UInt8} {m : Md} {N : Nat} {σ σ' : fkS} (h : rvdA t m N σ) (h1 : ∀ j, σ'.1 44 j = σ.1 44 j) : rvdA t m N σ' := fun f hf i I a1 a2 a3 a4 j lab b b1 b2 b3 => (h f hf i I a1 a2 a3 a4 j lab b b1 b2 b3).eq h1
theorem VM.fr {m : Md} {p : Nat} {mm : Nat → UInt8} {S : Nat → Nat → Bool} {σ σ' : fkS} (h : VM m p mm σ) (f : Fr S σ σ') (h0 : ∀ c j, kK c j = true → S c j = false) : VM m p mm σ' := by
  obtain ⟨h1, h2, h3, h4, h5, h6, h7⟩ := h
  refine ⟨h1, (f _ _ (h0 _ _ rfl)).1.trans h2, (f _ _ (h0 _ _ rfl)).1.trans h3, fun i hi => ⟨?_, (f _ _ (h0 _ _ rfl)).1.trans (h4 i hi).2⟩, (f _ _ (h0 _ _ rfl)).1.trans h5, fun k hk => ⟨(f _ _ (h0 _ _ rfl)).1.trans (h6 k hk).1, (f _ _ (h0 _ _ rfl)).1.trans (h6 k hk).2⟩, fun k hk => (f _ _ (h0 _ _ rfl)).2.1.trans ((h7 k hk).trans (f _ _ (h0 _ _ rfl)).2.1.symm)⟩
  rw [(f 58 (i / 8) (h0 _ _ rfl)).2.1]
  exact (h4 i hi).1
theorem KP.fr {t : Nat → UInt8} {n b : Nat} {m : Md} {S : Nat → Nat → Bool} {σ σ' : fkS} (h : KP t n m b σ) (f : Fr S σ σ') (h0 : ∀ c j, kK c j = true → S c j = false) (hB : bkF0 b S) : KP t n m b σ' := by
  obtain ⟨h1, h2, h3, h4, h5, h6, h7, h8, h9, h10, h11, ⟨p, mm, h12⟩, h13⟩ := h
  have hk : ∀ c j, 3 ≤ c → c ≤ 23 → kK c j = true := fun c j a b => by
    unfold kK
    rw [Nat.ble_eq_true_of_le a, Nat.ble_eq_true_of_le b]
    simp
  refine ⟨(f _ _ (h0 _ _ rfl)).1.trans h1, (f _ _ (h0 _ _ rfl)).1.trans h2, h3, (f _ _ (h0 _ _ rfl)).1.trans h4, h5, h6.eq fun c j a1 a2 => ?_, h7.eq fun j => (f 23 j (h0 _ _ rfl)).1, h8.frB h5.1 f hB, fun k hk => (f _ _ (hB.2.2.2.1 105 k (.inl rfl) (by have := h5.2.2.2.2.2.1; omega))).1.trans (h9 k hk), (f _ _ (h0 _ _ rfl)).2.2.trans h10, (f _ _ (h0 _ _ rfl)).2.2.trans h11, ⟨p, mm, h12.fr f h0⟩, fun k x hx => ?_⟩
  · show σ'.1 (swM c) j = σ.1 (swM c) j ∧ σ'.2.1 (swM c) j = σ.2.1 (swM c) j
    rw [swM_hi a1 (by omega)]
    obtain ⟨b1, b2, -⟩ := f (c - 21) j (h0 _ _ (hk _ _ (by omega) (by omega)))
    exact ⟨b1, b2⟩
  · rw [(f 146 k (h0 _ _ rfl)).2.1]
    exact h13 k x hx
theorem sMF_in {b c j : Nat} (h : sMF b c j = true) : (c = 103 ∧ j ≤ 58 ∧ j ≠ 37 ∧ j ≠ 39) ∨ (105 ≤ c ∧ c ≤ 145) := by
  unfold sMF sMX sTb sUb sAb sMb sGb sEb sLb sCb sXE sCM sNM sMv sMJ sMg fM at h
  simp only [Bool.or_eq_true, Bool.and_eq_true, Nat.beq_eq] at h
  omega
theorem sMF_kK {b c j : Nat} (h : kK c j = true) : sMF b c j = false := by
  cases hh : sMF b c j
  · rfl
  · have := sMF_in hh
    unfold kK at h
    simp only [Bool.or_eq_true, Bool.and_eq_true, Nat.beq_eq, Nat.ble_eq] at h
    omega
