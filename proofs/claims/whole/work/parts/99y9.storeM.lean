/-! THE REFERENCE's nodes say a tree -/
/-- x points to T (0), to a row of E (1), to what holds both parts of if (2), of match (3); its nodes from lo on, below hi -/
def At : Tr → Nat → Int32 → Nat → Nat → fkS → Prop
  | .leaf, m, x, _, _, _ => m = 1 ∧ x = -1
  | .inner kd (a, b, c, d) _ l r, m, x, lo, hi, σ => ∃ k, x = nI k ∧ lo ≤ k ∧ k < hi ∧
    if m = 1 then σ.1 169 k = nI c ∧ At l 0 (σ.1 166 k) lo hi σ ∧ At r 1 (σ.1 167 k) lo hi σ
    else if m = 2 then At l 0 (σ.1 167 k) lo hi σ ∧ At r 0 (σ.1 168 k) lo hi σ
    else if m = 3 then σ.1 172 k = nI a ∧ σ.1 173 k = nI b ∧ σ.1 174 k = nI c ∧ σ.1 175 k = nI d ∧ At l 0 (σ.1 167 k) lo hi σ ∧ At r 0 (σ.1 168 k) lo hi σ
    else if kd = 0 then σ.1 164 k = 0 ∧ σ.1 176 k = nI a
    else if kd = 1 then 1 ≤ a ∧ k + a ≤ hi ∧ (∀ j, j < a → σ.1 164 (k + j) = 1) ∧ (∀ j, j + 1 < a → σ.1 166 (k + j) = nI (k + j + 1)) ∧ σ.1 169 (k + a - 1) = nI b ∧ At l 0 (σ.1 166 (k + a - 1)) lo hi σ
    else if kd = 2 then σ.1 164 k = 2 ∧ σ.1 172 k = nI a ∧ σ.1 173 k = nI b
    else if kd = 3 then σ.1 164 k = 3 ∧ σ.1 172 k = nI a ∧ σ.1 173 k = nI b ∧ σ.1 176 k = nI c ∧ At l 1 (σ.1 166 k) lo hi σ
    else if kd = 4 then σ.1 164 k = 4 ∧ σ.1 165 k = nI c ∧ σ.1 172 k = nI a ∧ σ.1 173 k = nI b
    else if kd = 5 then σ.1 164 k = 5
    else if kd = 6 then σ.1 164 k = 6 ∧ σ.1 169 k = nI a ∧ σ.1 170 k = nI b ∧ At l 0 (σ.1 166 k) lo hi σ ∧ At r 0 (σ.1 167 k) lo hi σ
    else if kd = 7 then σ.1 164 k = 7 ∧ σ.1 169 k = nI a ∧ σ.1 170 k = nI b ∧ At l 0 (σ.1 166 k) lo hi σ ∧ At r 0 (σ.1 167 k) lo hi σ
    else if kd = 8 then σ.1 164 k = 8 ∧ σ.1 172 k = nI a ∧ σ.1 173 k = nI b ∧ At l 0 (σ.1 166 k) lo hi σ ∧ At r 0 (σ.1 167 k) lo hi σ
    else if kd = 9 then σ.1 164 k = 9 ∧ σ.1 169 k = nI a ∧ σ.1 171 k = nI b ∧ At l 0 (σ.1 166 k) lo hi σ ∧ At r 2 (nI k) lo hi σ
    else if kd = 10 then σ.1 164 k = 10 ∧ σ.1 169 k = nI a ∧ σ.1 171 k = nI b ∧ At l 0 (σ.1 166 k) lo hi σ ∧ At r 3 (nI k) lo hi σ
    else σ.1 164 k = 11 ∧ σ.1 176 k = nI (sM a) ∧ σ.1 169 k = nI b ∧ σ.1 170 k = nI c ∧ At l 0 (σ.1 166 k) lo hi σ ∧ At r 0 (σ.1 167 k) lo hi σ
section ATE
variable {a b c d lo hi kd : Nat} {l r : Tr} {x : Int32} {σ : fkS}
theorem at_0 : At (nd 0 a b c d l r) 0 x lo hi σ = ∃ k, x = nI k ∧ lo ≤ k ∧ k < hi ∧ σ.1 164 k = 0 ∧ σ.1 176 k = nI a := rfl
theorem at_1 : At (nd 1 a b c d l r) 0 x lo hi σ = ∃ k, x = nI k ∧ lo ≤ k ∧ k < hi ∧ 1 ≤ a ∧ k + a ≤ hi ∧ (∀ j, j < a → σ.1 164 (k + j) = 1) ∧ (∀ j, j + 1 < a → σ.1 166 (k + j) = nI (k + j + 1)) ∧ σ.1 169 (k + a - 1) = nI b ∧ At l 0 (σ.1 166 (k + a - 1)) lo hi σ := rfl
theorem at_2 : At (nd 2 a b c d l r) 0 x lo hi σ = ∃ k, x = nI k ∧ lo ≤ k ∧ k < hi ∧ σ.1 164 k = 2 ∧ σ.1 172 k = nI a ∧ σ.1 173 k = nI b := rfl
theorem at_3 : At (nd 3 a b c d l r) 0 x lo hi σ = ∃ k, x = nI k ∧ lo ≤ k ∧ k < hi ∧ σ.1 164 k = 3 ∧ σ.1 172 k = nI a ∧ σ.1 173 k = nI b ∧ σ.1 176 k = nI c ∧ At l 1 (σ.1 166 k) lo hi σ := rfl
theorem at_4 : At (nd 4 a b c d l r) 0 x lo hi σ = ∃ k, x = nI k ∧ lo ≤ k ∧ k < hi ∧ σ.1 164 k = 4 ∧ σ.1 165 k = nI c ∧ σ.1 172 k = nI a ∧ σ.1 173 k = nI b := rfl
theorem at_5 : At (nd 5 a b c d l r) 0 x lo hi σ = ∃ k, x = nI k ∧ lo ≤ k ∧ k < hi ∧ σ.1 164 k = 5 := rfl
theorem at_6 : At (nd 6 a b c d l r) 0 x lo hi σ = ∃ k, x = nI k ∧ lo ≤ k ∧ k < hi ∧ σ.1 164 k = 6 ∧ σ.1 169 k = nI a ∧ σ.1 170 k = nI b ∧ At l 0 (σ.1 166 k) lo hi σ ∧ At r 0 (σ.1 167 k) lo hi σ := rfl
theorem at_7 : At (nd 7 a b c d l r) 0 x lo hi σ = ∃ k, x = nI k ∧ lo ≤ k ∧ k < hi ∧ σ.1 164 k = 7 ∧ σ.1 169 k = nI a ∧ σ.1 170 k = nI b ∧ At l 0 (σ.1 166 k) lo hi σ ∧ At r 0 (σ.1 167 k) lo hi σ := rfl
theorem at_8 : At (nd 8 a b c d l r) 0 x lo hi σ = ∃ k, x = nI k ∧ lo ≤ k ∧ k < hi ∧ σ.1 164 k = 8 ∧ σ.1 172 k = nI a ∧ σ.1 173 k = nI b ∧ At l 0 (σ.1 166 k) lo hi σ ∧ At r 0 (σ.1 167 k) lo hi σ := rfl
theorem at_9 : At (nd 9 a b c d l r) 0 x lo hi σ = ∃ k, x = nI k ∧ lo ≤ k ∧ k < hi ∧ σ.1 164 k = 9 ∧ σ.1 169 k = nI a ∧ σ.1 171 k = nI b ∧ At l 0 (σ.1 166 k) lo hi σ ∧ At r 2 (nI k) lo hi σ := rfl
theorem at_10 : At (nd 10 a b c d l r) 0 x lo hi σ = ∃ k, x = nI k ∧ lo ≤ k ∧ k < hi ∧ σ.1 164 k = 10 ∧ σ.1 169 k = nI a ∧ σ.1 171 k = nI b ∧ At l 0 (σ.1 166 k) lo hi σ ∧ At r 3 (nI k) lo hi σ := rfl
theorem at_11 : At (nd 11 a b c d l r) 0 x lo hi σ = ∃ k, x = nI k ∧ lo ≤ k ∧ k < hi ∧ σ.1 164 k = 11 ∧ σ.1 176 k = nI (sM a) ∧ σ.1 169 k = nI b ∧ σ.1 170 k = nI c ∧ At l 0 (σ.1 166 k) lo hi σ ∧ At r 0 (σ.1 167 k) lo hi σ := rfl
theorem at_12 : At (nd 12 a b c d l r) 0 x lo hi σ = ∃ k, x = nI k ∧ lo ≤ k ∧ k < hi ∧ σ.1 164 k = 11 ∧ σ.1 176 k = nI (sM a) ∧ σ.1 169 k = nI b ∧ σ.1 170 k = nI c ∧ At l 0 (σ.1 166 k) lo hi σ ∧ At r 0 (σ.1 167 k) lo hi σ := rfl
theorem at_21 : At (nd kd a b c d l r) 1 x lo hi σ = ∃ k, x = nI k ∧ lo ≤ k ∧ k < hi ∧ σ.1 169 k = nI c ∧ At l 0 (σ.1 166 k) lo hi σ ∧ At r 1 (σ.1 167 k) lo hi σ := rfl
theorem at_20 : At (nd kd a b c d l r) 2 x lo hi σ = ∃ k, x = nI k ∧ lo ≤ k ∧ k < hi ∧ At l 0 (σ.1 167 k) lo hi σ ∧ At r 0 (σ.1 168 k) lo hi σ := rfl
theorem at_22 : At (nd kd a b c d l r) 3 x lo hi σ = ∃ k, x = nI k ∧ lo ≤ k ∧ k < hi ∧ σ.1 172 k = nI a ∧ σ.1 173 k = nI b ∧ σ.1 174 k = nI c ∧ σ.1 175 k = nI d ∧ At l 0 (σ.1 167 k) lo hi σ ∧ At r 0 (σ.1 168 k) lo hi σ := rfl
end ATE
theorem At.fr {σ σ' : fkS} {lo hi lo2 hi2 : Nat} (h1 : lo2 ≤ lo) (h2 : hi ≤ hi2) (hf : ∀ c j, 164 ≤ c → c ≤ 176 → lo ≤ j → j < hi → σ'.1 c j = σ.1 c j) : ∀ (T : Tr) (m : Nat) (x : Int32), At T m x lo hi σ → At T m x lo2 hi2 σ' := by
  refine tr_ind (fun m x h => h) (fun kd a b c d l r hl hr _ m x h => ?_)
  unfold nd At at h ⊢
  obtain ⟨k, hx, k1, k2, h⟩ := h
  refine ⟨k, hx, Nat.le_trans h1 k1, Nat.lt_of_lt_of_le k2 h2, ?_⟩
  have f := fun (c k : Nat) (a1 : 164 ≤ c) (a2 : c ≤ 176) (a3 : lo ≤ k) (a4 : k < hi) => hf c k a1 a2 a3 a4
  have e164 := f 164 k (by omega) (by omega) k1 k2
  have e165 := f 165 k (by omega) (by omega) k1 k2
  have e166 := f 166 k (by omega) (by omega) k1 k2
  have e167 := f 167 k (by omega) (by omega) k1 k2
  have e168 := f 168 k (by omega) (by omega) k1 k2
  have e169 := f 169 k (by omega) (by omega) k1 k2
  have e170 := f 170 k (by omega) (by omega) k1 k2
  have e171 := f 171 k (by omega) (by omega) k1 k2
  have e172 := f 172 k (by omega) (by omega) k1 k2
  have e173 := f 173 k (by omega) (by omega) k1 k2
  have e174 := f 174 k (by omega) (by omega) k1 k2
  have e175 := f 175 k (by omega) (by omega) k1 k2
  have e176 := f 176 k (by omega) (by omega) k1 k2
  rw [e164, e165, e166, e167, e168, e169, e170, e171, e172, e173, e174, e175, e176]
  by_cases c0 : m = 1
  · rw [if_pos c0] at h ⊢; exact ⟨h.1, hl _ _ h.2.1, hr _ _ h.2.2⟩
  rw [if_neg c0] at h ⊢
  by_cases c0 : m = 2
  · rw [if_pos c0] at h ⊢; exact ⟨hl _ _ h.1, hr _ _ h.2⟩
  rw [if_neg c0] at h ⊢
  by_cases c0 : m = 3
  · rw [if_pos c0] at h ⊢; exact ⟨h.1, h.2.1, h.2.2.1, h.2.2.2.1, hl _ _ h.2.2.2.2.1, hr _ _ h.2.2.2.2.2⟩
  rw [if_neg c0] at h ⊢
  by_cases c1 : kd = 0
  · rw [if_pos c1] at h ⊢; exact ⟨h.1, h.2⟩
  rw [if_neg c1] at h ⊢
  by_cases c1 : kd = 1
  · rw [if_pos c1] at h ⊢
    obtain ⟨q0, q1, q2, q3, q4, q5⟩ := h
    have ea : k + a - 1 < hi := by omega
    have ea2 : lo ≤ k + a - 1 := by omega
    rw [f 169 _ (by omega) (by omega) ea2 ea, f 166 _ (by omega) (by omega) ea2 ea]
    exact ⟨q0, by omega, fun j hj => (f 164 (k + j) (by omega) (by omega) (by omega) (by omega)).trans (q2 j hj), fun j hj => (f 166 (k + j) (by omega) (by omega) (by omega) (by omega)).trans (q3 j hj), q4, hl _ _ q5⟩
  rw [if_neg c1] at h ⊢
  by_cases c1 : kd = 2
  · rw [if_pos c1] at h ⊢; exact ⟨h.1, h.2.1, h.2.2⟩
  rw [if_neg c1] at h ⊢
  by_cases c1 : kd = 3
  · rw [if_pos c1] at h ⊢; exact ⟨h.1, h.2.1, h.2.2.1, h.2.2.2.1, hl _ _ h.2.2.2.2⟩
  rw [if_neg c1] at h ⊢
  by_cases c1 : kd = 4
  · rw [if_pos c1] at h ⊢; exact ⟨h.1, h.2.1, h.2.2.1, h.2.2.2⟩
  rw [if_neg c1] at h ⊢
  by_cases c1 : kd = 5
  · rw [if_pos c1] at h ⊢; exact h
  rw [if_neg c1] at h ⊢
  by_cases c1 : kd = 6
  · rw [if_pos c1] at h ⊢; exact ⟨h.1, h.2.1, h.2.2.1, hl _ _ h.2.2.2.1, hr _ _ h.2.2.2.2⟩
  rw [if_neg c1] at h ⊢
  by_cases c1 : kd = 7
  · rw [if_pos c1] at h ⊢; exact ⟨h.1, h.2.1, h.2.2.1, hl _ _ h.2.2.2.1, hr _ _ h.2.2.2.2⟩
  rw [if_neg c1] at h ⊢
  by_cases c1 : kd = 8
  · rw [if_pos c1] at h ⊢; exact ⟨h.1, h.2.1, h.2.2.1, hl _ _ h.2.2.2.1, hr _ _ h.2.2.2.2⟩
  rw [if_neg c1] at h ⊢
  by_cases c1 : kd = 9
  · rw [if_pos c1] at h ⊢; exact ⟨h.1, h.2.1, h.2.2.1, hl _ _ h.2.2.2.1, hr _ _ h.2.2.2.2⟩
  rw [if_neg c1] at h ⊢
  by_cases c1 : kd = 10
  · rw [if_pos c1] at h ⊢; exact ⟨h.1, h.2.1, h.2.2.1, hl _ _ h.2.2.2.1, hr _ _ h.2.2.2.2⟩
  rw [if_neg c1] at h ⊢
  exact ⟨h.1, h.2.1, h.2.2.1, h.2.2.2.1, hl _ _ h.2.2.2.2.1, hr _ _ h.2.2.2.2.2⟩
/-! RULES of the reference's parser -/
/-- nodes below m are as they were -/
def Kp (m : Nat) (σ σ' : fkS) : Prop := ∀ c j, 164 ≤ c → c ≤ 176 → j < m → σ'.1 c j = σ.1 c j
/-- node k's row -/
def NR (k : Nat) (σ : fkS) (f : Nat → Int32) : Prop := ∀ c, 164 ≤ c → c ≤ 176 → σ.1 c k = f c
def up (f : Nat → Int32) (c : Nat) (v : Int32) : Nat → Int32 := fun e => if e = c then v else f e
/-- a new node -/
def n0 (g : Nat → Int32) (kd wh : Int32) : Nat → Int32 := fun c => if c = 164 then kd else if c = 165 then wh else if c = 166 ∨ c = 167 ∨ c = 168 then -1 else if c = 176 then 0 else g c
def fkMP (c j : Nat) : Bool := (Nat.beq c 103 && (Nat.beq j 80 || Nat.beq j 81 || Nat.beq j 82 || Nat.beq j 83 || Nat.beq j 84 || Nat.beq j 85 || Nat.beq j 86 || Nat.beq j 87 || Nat.beq j 111 || Nat.beq j 112 || Nat.beq j 113)) || (Nat.ble 164 c && Nat.ble c 176)
/-- the reference's parser: TOKEN, fault, ATOMS, so many nodes, so many open -/
def PN (t : Nat → UInt8) (n : Nat) (σ0 : fkS) (s : PS) (m o : Nat) (σ : fkS) : Prop := EM t n s.1 s.2.1 σ ∧ σ.1 103 112 = nI s.2.2 ∧ σ.1 103 111 = nI m ∧ σ.1 103 113 = nI o ∧ (s.2.1 = none → s.2.2 ≤ 400) ∧ s.2.2 ≤ 401 ∧ m ≤ 3000 ∧ Fr fkMP σ0 σ
section PMR
variable {t : Nat → UInt8} {n d m o : Nat} {σ0 σ : fkS} {s : PS}
theorem Kp.rf : Kp m σ σ := fun _ _ _ _ _ => rfl
theorem Kp.tr {σ1 σ2 : fkS} (h : Kp m σ σ1) (h2 : Kp m σ1 σ2) : Kp m σ σ2 := fun c j a1 a2 a3 => (h2 c j a1 a2 a3).trans (h c j a1 a2 a3)
theorem Kp.le {σ' : fkS} {m2 : Nat} (h : Kp m σ σ') (hm : m2 ≤ m) : Kp m2 σ σ' := fun c j a1 a2 a3 => h c j a1 a2 (by omega)
theorem Kp.nr {σ' : fkS} {k : Nat} {f : Nat → Int32} (h : Kp m σ σ') (hk : k < m) (hn : NR k σ f) : NR k σ' f := fun c a1 a2 => (h c k a1 a2 hk).trans (hn c a1 a2)
theorem Kp.at {σ' : fkS} {T : Tr} {b : Nat} {x : Int32} {lo hi : Nat} (h : Kp m σ σ') (hm : hi ≤ m) (ha : At T b x lo hi σ) : At T b x lo hi σ' := ha |> At.fr (Nat.le_refl _) (Nat.le_refl _) (fun c j a1 a2 _ a4 => h c j a1 a2 (by omega)) T b x
theorem Kp.of {σ' : fkS} {S : Nat → Nat → Bool} (h : Fr S σ σ') (hs : ∀ c j, 164 ≤ c → c ≤ 176 → S c j = false) : Kp m σ σ' := fun c j a1 a2 _ => (h c j (hs c j a1 a2)).1
theorem fkME_n (c j : Nat) (a1 : 164 ≤ c) (_ : c ≤ 176) : fkME c j = false := by
  have : Nat.beq c 103 = false := beq_ne (by omega)
  unfold fkME fkMS
  rw [this]
  rfl
theorem fkMN_n (c j : Nat) (a1 : 164 ≤ c) (a2 : c ≤ 176) : fkMN c j = false := by
  have : Nat.beq c 103 = false := beq_ne (by omega)
  unfold fkMN
  rw [fkME_n c j a1 a2, this]
  rfl
theorem fkMC_n (c j : Nat) (a1 : 164 ≤ c) (a2 : c ≤ 176) : fkMC c j = false := by
  have : Nat.beq c 103 = false := beq_ne (by omega)
  unfold fkMC
  rw [fkME_n c j a1 a2, this]
  rfl
theorem fkMP_e {c j : Nat} (q : fkME c j = true) : fkMP c j = true := by
  unfold fkME fkMS at q
  unfold fkMP
  simp only [Bool.or_eq_true, Bool.and_eq_true] at q ⊢
  grind
theorem fkMP_n {c j : Nat} (q : fkMN c j = true) : fkMP c j = true := by
  unfold fkMN fkME fkMS at q
  unfold fkMP
  simp only [Bool.or_eq_true, Bool.and_eq_true] at q ⊢
  grind
theorem fkMP_c {c j : Nat} (q : fkMC c j = true) : fkMP c j = true := by
  unfold fkMC fkME fkMS at q
  unfold fkMP
  simp only [Bool.or_eq_true, Bool.and_eq_true] at q ⊢
  grind
theorem fkMP_st {c j : Nat} (a1 : 164 ≤ c) (a2 : c ≤ 176) : fkMP c j = true := by
  unfold fkMP
  rw [Nat.ble_eq.mpr a1, Nat.ble_eq.mpr a2]
  simp
/-- what is stored into a node -/
theorem PN.st {c j : Nat} {v : Int32} (h : PN t n σ0 s m o σ) (a1 : 164 ≤ c) (a2 : c ≤ 176) : PN t n σ0 s m o (sI σ c j v) := by
  have f0 : Fr (fun c j => Nat.ble 164 c && Nat.ble c 176) σ (sI σ c j v) := Fr.rf.sI (by rw [Nat.ble_eq.mpr a1, Nat.ble_eq.mpr a2]; rfl)
  obtain ⟨h1, h2, h3, h4, h5, h6, h7, h8⟩ := h
  exact ⟨h1.fg f0 rfl rfl rfl rfl rfl rfl rfl (fun _ => rfl), (f0 103 112 rfl).1.trans h2, (f0 103 111 rfl).1.trans h3, (f0 103 113 rfl).1.trans h4, h5, h6, h7, h8.sI (fkMP_st a1 a2)⟩
theorem Kp.st {σ' : fkS} {c j : Nat} {v : Int32} (h : Kp m σ σ') (hj : m ≤ j) : Kp m σ (sI σ' c j v) := fun e i a1 a2 a3 => by
  refine Eq.trans ?_ (h e i a1 a2 a3)
  by_cases q : e = c
  · subst q; exact sI_so (by omega)
  · exact congrFun (sI_o q) i
theorem NR.st {k c : Nat} {v : Int32} {f : Nat → Int32} (h : NR k σ f) : NR k (sI σ c k v) (up f c v) := fun e a1 a2 => by
  unfold up
  by_cases q : e = c
  · subst q; rw [if_pos rfl]; exact sI_ss
  · rw [if_neg q]; exact (congrFun (sI_o q) k).trans (h e a1 a2)
theorem NR.so {k j c : Nat} {v : Int32} {f : Nat → Int32} (h : NR k σ f) (hj : j ≠ k) : NR k (sI σ c j v) f := fun e a1 a2 => by
  by_cases q : e = c
  · subst q; exact (sI_so (Ne.symm hj)).trans (h e a1 a2)
  · exact (congrFun (sI_o q) k).trans (h e a1 a2)
theorem At.so {T : Tr} {b : Nat} {x : Int32} {lo hi c j : Nat} {v : Int32} (h : At T b x lo hi σ) (hj : j < lo ∨ hi ≤ j) : At T b x lo hi (sI σ c j v) := At.fr (Nat.le_refl _) (Nat.le_refl _) (fun e i a1 a2 a3 a4 => by
  by_cases q : e = c
  · subst q; exact sI_so (by omega)
  · exact congrFun (sI_o q) i) T b x h
theorem At.wide {T : Tr} {b : Nat} {x : Int32} {lo hi lo2 hi2 : Nat} (h : At T b x lo hi σ) (h1 : lo2 ≤ lo) (h2 : hi ≤ hi2) : At T b x lo2 hi2 σ := At.fr h1 h2 (fun _ _ _ _ _ _ => rfl) T b x h
theorem PN.e {σ' : fkS} {s' : PS} (h : PN t n σ0 s m o σ) (hf : Fr fkME σ σ') (he : EM t n s'.1 s'.2.1 σ') (ha : s'.2.2 = s.2.2) (hw : s'.2.1 = none → s.2.1 = none) : PN t n σ0 s' m o σ' := by
  obtain ⟨h1, h2, h3, h4, h5, h6, h7, h8⟩ := h
  refine ⟨he, ?_, (hf 103 111 rfl).1.trans h3, (hf 103 113 rfl).1.trans h4, fun z => by rw [ha]; exact h5 (hw z), by rw [ha]; exact h6, h7, h8.tr (hf.mono fun c j q => fkMP_e q)⟩
  rw [ha]
  exact (hf 103 112 rfl).1.trans h2
theorem PN.at (h : PN t n σ0 s m o σ) : σ.1 103 83 = nI (aA t n s.1) := h.1.1.2.2.1
theorem PN.lt (h : PN t n σ0 s m o σ) : (0 ≤ σ.1 103 81 ↔ ¬ s.2.1 = none) ∧ (σ.1 103 81 < 0 ↔ s.2.1 = none) := by
  rw [h.1.2.1]
  exact flt_lt h.1.2.2.2
theorem vV {k : Nat} {as : List Value} {P Q : fkS → Prop} (c : Cv d k as σ P) (q : ∀ σ', P σ' → Q σ') : Cv d k as σ Q := by
  refine c.mono fun x s hx => ?_
  obtain ⟨rfl, p⟩ := Qv_s hx
  exact q s p
theorem vI {k : Nat} {as : List Value} {P Q : Int32 → fkS → Prop} (c : Ci d k as σ P) (q : ∀ x σ', P x σ' → Q x σ') : Ci d k as σ Q := by
  refine c.mono fun x s hx => ?_
  obtain ⟨v, rfl, p⟩ := Qi_s hx
  exact q v s p
theorem u_scan (h : PN t n σ0 s m o σ) (hw : s.2.1 = none) : Cv (d + 4) 325 [.ref 103] σ (fun σ' => PN t n σ0 (nxt s) m o σ' ∧ Kp m σ σ') := by
  have h1 := h.1
  rw [hw] at h1
  refine vV (m_step h1) fun σ' ⟨g1, g2⟩ => ⟨h.e g1 g2 rfl fun _ => hw, Kp.of g1 fkME_n⟩
theorem eK_eq {k : Int32} {s : PS} : eK t n k s = ((exK t n (decide (kX t (tkAt t n s.1) = k)) s.1 s.2.1).1, (exK t n (decide (kX t (tkAt t n s.1) = k)) s.1 s.2.1).2, s.2.2) := rfl
theorem u_sign {k : Nat} {c : Int32} (hk : k ∈ 128 :: 129 :: sgs) (hc : c = nI (sM k)) (h : PN t n σ0 s m o σ) : Cv (d + 5) 335 [.ref 103, .int c] σ (fun σ' => PN t n σ0 (eK t n (nI k) s) m o σ' ∧ Kp m σ σ') := by
  subst hc
  refine vV (m_signK hk h.1) fun σ' ⟨g1, g2⟩ => ⟨h.e g1 g2 rfl fun z => (eK_inv z).1, Kp.of g1 fkME_n⟩
theorem u_word {j l : Nat} (hj : j < 14) (hl : l = 2000 + kwL j) (h : PN t n σ0 s m o σ) : Cv (d + 5) 330 [.ref 103, .ref l] σ (fun σ' => PN t n σ0 (eK t n (nI (4 + j)) s) m o σ' ∧ Kp m σ σ') := by
  subst hl
  refine vV (m_wordK hj h.1) fun σ' ⟨g1, g2⟩ => ⟨h.e g1 g2 rfl fun z => (eK_inv z).1, Kp.of g1 fkME_n⟩
/-- where a NAME stands, if it is one -/
theorem u_name (h : PN t n σ0 s m o σ) : Cv (d + 5) 333 [.ref 103] σ (fun σ' => PN t n σ0 (eK t n 1 s) m o σ' ∧ Kp m σ σ' ∧ σ'.1 103 86 = nI (aA t n s.1) ∧ (kA t n s.1 = 1 → σ'.1 103 87 = nI (zA t n s.1))) := by
  refine vV (m_nameK h.1) fun σ' ⟨g1, g2, g3, g4⟩ => ⟨?_, Kp.of g1 fkMN_n, g3, fun z => g4 (kX_name.mp z).1⟩
  obtain ⟨h1, h2, h3, h4, h5, h6, h7, h8⟩ := h
  exact ⟨g2, (g1 103 112 rfl).1.trans h2, (g1 103 111 rfl).1.trans h3, (g1 103 113 rfl).1.trans h4, fun z => h5 (eK_inv z).1, h6, h7, h8.tr (g1.mono fun c j q => fkMP_n q)⟩
theorem u_isSg {k : Nat} {c : Int32} (hk : k ∈ 128 :: 129 :: sgs) (hc : c = nI (sM k)) (h : PN t n σ0 s m o σ) : Ci d 336 [.ref 103, .int c] σ (fun x σ' => σ' = σ ∧ (x = 0 ↔ ¬ (s.2.1 = none ∧ kA t n s.1 = nI k))) := by
  subst hc
  refine vI (m_isSg hk h.1) fun x σ' ⟨g1, g2⟩ => ⟨g1, ?_⟩
  rw [g2]
  exact isKd_n
theorem u_isKw {j l : Nat} (hj : j < 14) (hl : l = 2000 + kwL j) (h : PN t n σ0 s m o σ) : Ci (d + 4) 331 [.ref 103, .ref l] σ (fun x σ' => σ' = σ ∧ (x = 0 ↔ ¬ (s.2.1 = none ∧ kA t n s.1 = nI (4 + j)))) := by
  subst hl
  refine vI (m_isKw hj h.1) fun x σ' ⟨g1, g2⟩ => ⟨g1, ?_⟩
  rw [g2]
  exact isKd_n
theorem u_wrong {c : Int32} (hc : c = nI (aA t n s.1)) (h : PN t n σ0 s m o σ) (hw : s.2.1 = none) : Cv d 332 [.ref 103, .int c] σ (fun σ' => PN t n σ0 (ft t n s) m o σ' ∧ Kp m σ σ') := by
  subst hc
  have h1 := h.1
  rw [hw] at h1
  refine vV (m_wrong h1) fun σ' ⟨g1, g2⟩ => ⟨h.e g1 g2 rfl (fun z => by cases z), Kp.of g1 fkME_n⟩
theorem u_room (h : PN t n σ0 s m o σ) (hw : s.2.1 = none) : Ci (d + 1) 347 [.ref 103] σ (fun x σ' => PN t n σ0 (ca t n s) m o σ' ∧ Kp m σ σ' ∧ (x = 0 ↔ ¬ s.2.2 < 400)) := by
  have h1 := h.1
  rw [hw] at h1
  have h4 := h.2.2.2.2.1 hw
  refine vI (m_room h1 h.2.1 (by omega) (fun _ => h4)) fun x σ' ⟨g1, g2, g3, g4⟩ => ?_
  obtain ⟨h1', h2, h3, h4', h5, h6, h7, h8⟩ := h
  have g2' : EM t n s.1 (if s.2.2 < 400 then none else some (aA t n s.1)) σ' := g2
  have g4' : x = if (if s.2.2 < 400 then none else some (aA t n s.1)) = none then 1 else 0 := g4
  refine ⟨⟨g2', g3, (g1 103 111 rfl).1.trans h3, (g1 103 113 rfl).1.trans h4', fun z => ?_, ?_, h7, h8.tr (g1.mono fun c j q => fkMP_c q)⟩, Kp.of g1 fkMC_n, ?_⟩
  · have z2 : (if s.2.2 < 400 then none else some (aA t n s.1)) = none := z
    show s.2.2 + 1 ≤ 400
    by_cases c : s.2.2 < 400
    · omega
    · rw [if_neg c] at z2; cases z2
  · show s.2.2 + 1 ≤ 401
    omega
  · by_cases c : s.2.2 < 400
    · rw [if_pos c] at g4'
      rw [g4']
      exact ⟨fun z => absurd z (by decide), fun z => absurd c z⟩
    · rw [if_neg c] at g4'
      rw [g4']
      exact ⟨fun _ => c, fun _ => rfl⟩
theorem u_node {kd wh : Int32} (h : PN t n σ0 s m o σ) (hm : m < 3000) : Ci d 340 [.ref 103, .int kd, .int wh] σ (fun x σ' => x = nI m ∧ PN t n σ0 s (m + 1) o σ' ∧ Kp m σ σ' ∧ ∃ g, NR m σ' (n0 g kd wh)) := by
  obtain ⟨h1, h2, h3, h4, h5, h6, h7, h8⟩ := h
  refine vI (m_node h3 hm) fun x σ' ⟨g0, g1, g2, g3, g4, g5, g6, g7, g8⟩ => ⟨g0, ?_, ?_, fun c => σ'.1 c m, ?_⟩
  · refine ⟨h1.fg g1 rfl rfl rfl rfl rfl rfl rfl (fun _ => rfl), (g1 103 112 rfl).1.trans h2, g2, (g1 103 113 rfl).1.trans h4, h5, h6, hm, h8.tr (g1.mono fun c j q => ?_)⟩
    unfold fkND at q
    unfold fkMP
    simp only [Bool.or_eq_true, Bool.and_eq_true, Nat.beq_eq, Nat.ble_eq] at q ⊢
    omega
  · intro c j a1 a2 a3
    refine (g1 c j ?_).1
    unfold fkND
    have e1 : Nat.beq j m = false := beq_ne (by omega)
    have e2 : Nat.beq c 103 = false := beq_ne (by omega)
    rw [e1, e2]
    simp
  · intro c a1 a2
    unfold n0
    by_cases c1 : c = 164
    · rw [if_pos c1, c1]; exact g3
    rw [if_neg c1]
    by_cases c1 : c = 165
    · rw [if_pos c1, c1]; exact g4
    rw [if_neg c1]
    by_cases c1 : c = 166 ∨ c = 167 ∨ c = 168
    · rw [if_pos c1]
      rcases c1 with c1 | c1 | c1
      · rw [c1]; exact g5
      · rw [c1]; exact g6
      · rw [c1]; exact g7
    rw [if_neg c1]
    by_cases c1 : c = 176
    · rw [if_pos c1, c1]; exact g8
    rw [if_neg c1]
end PMR
