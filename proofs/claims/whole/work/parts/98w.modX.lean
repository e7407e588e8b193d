/-! module: the class, and the reference -/
def sC0 (c j : Nat) : Bool := (Nat.beq c 0 && (Nat.beq j 1 || Nat.beq j 6)) || (Nat.ble 24 c && Nat.ble c 55)
def sC1 (c j : Nat) : Bool := (Nat.beq c 0 && (Nat.beq j 1 || Nat.beq j 3 || Nat.beq j 4 || Nat.beq j 5 || Nat.beq j 6)) || (Nat.ble 24 c && Nat.ble c 59)
theorem sRZ_lt {c j : Nat} (h : sRZ c j = true) : 24 ≤ c ∧ c ≤ 49 := by
  unfold sRZ sRY sRX f46 at h
  simp only [Bool.or_eq_true, Bool.and_eq_true, Nat.beq_eq] at h
  omega
theorem sC0_not {c j : Nat} (h : sC0 c j = false) : ¬ (24 ≤ c ∧ c ≤ 55) ∧ ¬ (c = 0 ∧ (j = 1 ∨ j = 6)) := by
  refine ⟨fun z => ?_, fun z => ?_⟩
  · unfold sC0 at h
    rw [Nat.ble_eq_true_of_le z.1, Nat.ble_eq_true_of_le z.2, Bool.and_self, Bool.or_true] at h
    cases h
  · obtain ⟨rfl, rfl | rfl⟩ := z
    · exact absurd h (by decide)
    · exact absurd h (by decide)
theorem Fr.c01 {σ σ' : fkS} (h : Fr sC0 σ σ') : Fr sC1 σ σ' := h.mono fun c j h => by
  unfold sC0 at h
  unfold sC1
  simp only [Bool.or_eq_true, Bool.and_eq_true, Nat.beq_eq, Nat.ble_eq] at h ⊢
  omega
theorem sVd_C0 {c j : Nat} (h : sVd c j = true) : sC0 c j = true := by
  unfold sVd at h
  unfold sC0
  simp only [Bool.or_eq_true, Bool.and_eq_true, Nat.beq_eq, Nat.ble_eq] at h ⊢
  omega
theorem sMk_C1 {c j : Nat} (h : sMk c j = true) : sC1 c j = true := by
  unfold sMk at h
  unfold sC1
  simp only [Bool.or_eq_true, Bool.and_eq_true, Nat.beq_eq, Nat.ble_eq] at h ⊢
  omega
/-- what comes of module(k), the class -/
def modX (t : Nat → UInt8) (k : Nat) (σ : fkS) (r : Int32) (σ' : fkS) : Prop := match pMo t k with
  | .inr (w, pl) => r = w ∧ Fr sC0 σ σ' ∧ σ'.1 0 1 = 0 ∧ σ'.1 0 6 = pl
  | .inl (m, _) => (vdM t m ≠ 0 ∧ r = vdM t m ∧ Fr sC0 σ σ' ∧ σ'.1 0 1 = 0 ∧ σ'.1 0 6 = -1) ∨ (vdM t m = 0 ∧ mkOk m = false ∧ r = -4 ∧ Fr sC0 σ σ' ∧ σ'.1 0 1 = 0 ∧ σ'.1 0 6 = -1) ∨ (vdM t m = 0 ∧ mkOk m = true ∧ r = 1 ∧ Fr sC1 σ σ' ∧ σ'.1 0 1 = 0 ∧ σ'.1 0 6 = -1 ∧ DY t k m σ' ∧ rvdA t m (mdU m).length σ' ∧ mkX m σ' ∧ σ'.2.2 56 0 = 25 ∧ σ'.2.2 56 1 = 37 ∧ σ'.2.2 0 3 = 25 ∧ σ'.2.2 0 4 = 4 ∧ σ'.1 0 5 = 1)
/-- all of the reference's text are bytes -/
def TB (σ : fkS) : Prop := ∀ k, k < 8000 → ∃ x, σ.1 105 k = bI x
theorem TB.eq {σ σ' : fkS} (h : TB σ) (h1 : ∀ j, σ'.1 105 j = σ.1 105 j) : TB σ' := fun k hk => by
  rw [h1]
  exact h k hk
theorem TB.set {σ : fkS} {j : Nat} {x : UInt8} (h : TB σ) : TB (sI σ 105 j (bI x)) := fun k hk => by
  rw [sI3]
  by_cases z : k = j
  · rw [if_pos z]
    exact ⟨x, rfl⟩
  · rw [if_neg z]
    exact h k hk
section MODX
variable {t : Nat → UInt8} {n k b d : Nat} {σ : fkS}
theorem c_module (hX : tX σ t n) (hn : n ≤ 4000) (hk : k ≤ n) (h03 : σ.2.2 0 3 = 4) (h04 : σ.2.2 0 4 = 25) : Ci (d + 9) 15 [.ref 0, .int (nI k)] σ (modX t k σ) := by
  refine S_X_module (d := d + 8) h04 ⟨fun z => absurd z (nI_pos (by omega)), fun _ => ⟨fun _ => ⟨by decide, ?_⟩, fun z => absurd (by rw [hX.1]; exact nI_le hk (by omega)) z⟩⟩
  refine (c_read (d := d) (n := k) (t := t) (σ := sI σ 0 1 (0 : Int32)) (by omega) fun j hj => hX.2 j (by omega)).mono fun x σ1 hx => ?_
  obtain ⟨rfl, hR, hfr, hm⟩ := Qv_s hx
  have f1 : Fr sC0 σ σ1 := fun c j hcj => by
    obtain ⟨z1, z2⟩ := sC0_not hcj
    have z3 : sRZ c j = false := by
      cases hh : sRZ c j
      · rfl
      · have := sRZ_lt hh
        exact absurd ⟨this.1, by omega⟩ z1
    obtain ⟨a1, a2⟩ := hfr c j z3
    refine ⟨a1.trans (sI_ne2 fun q => z2 ⟨q.1, .inl q.2⟩), a2, ?_⟩
    have hR2 : σ1.2.2 = (sR (sI σ 0 1 (0 : Int32)) 46 0 26).2.2 := hR
    rw [hR2, sR_o (show c ≠ 46 by omega)]
    rfl
  have e01 : σ1.1 0 1 = 0 := (hfr 0 1 rfl).1.trans rfl
  have r03 : σ1.2.2 0 3 = 4 := (f1 0 3 rfl).2.2.trans h03
  have r04 : σ1.2.2 0 4 = 25 := (f1 0 4 rfl).2.2.trans h04
  show Wq 15 (d + 8 + 1) 35 _ _ σ1 _
  refine S_X_module_35 (d := d + 8) r04 ?_
  unfold modX
  cases hp : pMo t k with
  | inr y =>
    obtain ⟨w, pl⟩ := y
    rw [hp] at hm
    obtain ⟨m1, m2, m3⟩ := hm
    rw [m2, m3]
    exact ⟨fun z => absurd z m1, fun _ => ⟨rfl, f1.sI rfl, e01, rfl⟩⟩
  | inl y =>
    obtain ⟨m, q⟩ := y
    rw [hp] at hm
    obtain ⟨m1, m2, m3, m4⟩ := hm
    have hl := pMo_len hp
    obtain ⟨hf, hok, hC4, hEl⟩ := pMo_ok (by omega) hl hp
    rw [m3, m4]
    refine ⟨fun _ => ⟨by decide, ?_⟩, fun z => absurd rfl z⟩
    have f2 : Fr sC0 σ (sI σ1 0 6 (-1 : Int32)) := f1.sI rfl
    have hD2 : DX m (sI σ1 0 6 (-1 : Int32)) := m1
    have h25 : ∀ j, j < k → (sI σ1 0 6 (-1 : Int32)).1 25 j = (t j).toInt8.toInt32 := m2
    have g01 : (sI σ1 0 6 (-1 : Int32)).1 0 1 = 0 := e01
    have g06 : (sI σ1 0 6 (-1 : Int32)).1 0 6 = -1 := rfl
    have g03 : (sI σ1 0 6 (-1 : Int32)).2.2 0 3 = 4 := r03
    have g04 : (sI σ1 0 6 (-1 : Int32)).2.2 0 4 = 25 := r04
    generalize sI σ1 0 6 (-1 : Int32) = τ at *
    refine (c_verdict (d := d + 2) hl hf (by omega) hD2 h25 hC4 hok hEl).mono fun x σ2 hx => ?_
    obtain ⟨v, rfl, e2, hv, f3, hrv⟩ := Qi_s hx
    subst hv
    have hY : DY t k m σ2 := DY.fr (σ := sR (sR τ 50 0 25) 50 1 37) (hD2.dy h25 hC4 hok.2.2.1) f3 fun c j a b => sVd_lt (by omega)
    have f4 : Fr sC0 σ σ2 := f2.tr (((Fr.rf.sR rfl).sR rfl).tr (f3.mono fun c j => sVd_C0))
    have u01 : σ2.1 0 1 = 0 := (f3 0 1 rfl).1.trans g01
    have u06 : σ2.1 0 6 = -1 := (f3 0 6 rfl).1.trans g06
    have u03 : σ2.2.2 0 3 = 4 := (f3 0 3 rfl).2.2.trans g03
    have u04 : σ2.2.2 0 4 = 25 := (f3 0 4 rfl).2.2.trans g04
    show Wq 15 (d + 8 + 1) 84 _ _ σ2 _
    refine S_X_module_84 (d := d + 8) u04 ⟨fun z => ⟨by decide, ?_⟩, fun z => .inl ⟨z, rfl, f4, u01, u06⟩⟩
    obtain ⟨v1, v2, v3, v4, v5, v6, v7, v8, v9⟩ := vd_facts z
    refine (c_make (d := d + 7) hl hf hY v2 v3 (lim_le v4).1 hEl).mono fun x σ3 hx => ?_
    obtain ⟨v, rfl, hx⟩ := Qi_s hx
    show Wq 15 (d + 8 + 1) 102 _ _ σ3 _
    rcases hx with ⟨w1, rfl, rfl⟩ | ⟨w1, rfl, w2, w3, w4⟩
    · exact S_X_module_102 (d := d + 8) u03 u04 ⟨fun y => absurd rfl y, fun _ => .inr (.inl ⟨z, w1, rfl, f4, u01, u06⟩)⟩
    · have f5 : Fr sC1 σ σ3 := (f4.c01.tr ((Fr.rf.sR rfl).sR rfl)).tr (w3.mono fun c j => sMk_C1)
      have x03 : σ3.2.2 0 3 = 4 := (w3 0 3 rfl).2.2.trans u03
      have x04 : σ3.2.2 0 4 = 25 := (w3 0 4 rfl).2.2.trans u04
      have hY3 : DY t k m σ3 := DY.fr (σ := sR (sR σ2 56 0 25) 56 1 37) hY w3 fun c j a b => by
        unfold sMk
        rw [beq_ne (show c ≠ 56 by omega), beq_ne (show c ≠ 57 by omega), beq_ne (show c ≠ 58 by omega), beq_ne (show c ≠ 59 by omega)]
        rfl
      have hr3 : rvdA t m (mdU m).length σ3 := (hrv z).eq fun j => (w3 44 j rfl).1
      have r560 : σ3.2.2 56 0 = 25 := by rw [w2]; rfl
      have r561 : σ3.2.2 56 1 = 37 := by rw [w2]; rfl
      refine S_X_module_102 (d := d + 8) x03 x04 ⟨fun _ => ⟨by decide, by decide, .inr (.inr ⟨z, w1, rfl, ((f5.sR rfl).sR rfl).sI rfl, (w3 0 1 rfl).1.trans u01, (w3 0 6 rfl).1.trans u06, hY3, hr3, w4, r560, r561, rfl, rfl, rfl⟩)⟩, fun y => absurd y (by decide)⟩
/-- what comes of module(k), the reference -/
def modM (t : Nat → UInt8) (k b : Nat) (σ : fkS) (r : Int32) (σ' : fkS) : Prop := match pMo t k with
  | .inr (w, pl) => r = w ∧ Fr (sMF b) σ σ' ∧ σ'.1 103 1 = 0 ∧ σ'.1 103 2 = pl
  | .inl (m, _) => (vdM t m ≠ 0 ∧ r = vdM t m ∧ Fr (sMF b) σ σ' ∧ σ'.1 103 1 = 0 ∧ σ'.1 103 2 = -1) ∨ (vdM t m = 0 ∧ mkOk m = false ∧ r = -4 ∧ Fr (sMF b) σ σ' ∧ σ'.1 103 1 = 0 ∧ σ'.1 103 2 = -1) ∨ (vdM t m = 0 ∧ mkOk m = true ∧ r = 1 ∧ Fr (fun c j => sMF b c j || sMm c j) σ σ' ∧ σ'.1 103 1 = 0 ∧ σ'.1 103 2 = -1 ∧ MX t b m σ' ∧ (∀ j, j < k → σ'.1 105 (4000 * b + j) = bI (t j)) ∧ mkM m σ' ∧ σ'.1 103 37 = nI b ∧ σ'.1 103 39 = 1)
theorem w_mo111 {m : Md} {q : Nat} {σ0 : fkS} (hb : b < 2) (hp : pMo t k = .inl (m, q)) (hl : lenM m) (hf : fcM t k m) (hv : vdM t m = 0) (h38 : σ.1 103 38 = nI b) (hM : MX t b m σ) (h105 : ∀ j, j < k → σ.1 105 (4000 * b + j) = bI (t j)) (f0 : Fr (sMF b) σ0 σ) (h1 : σ.1 103 1 = 0) (h2 : σ.1 103 2 = -1) (hTB : TB σ0 → TB σ) : Wq 239 (d + 1) 111 [some (.ref 103), none, none, some (.int (nI 0))] [] σ (Qi fun r σ' => modM t k b σ0 r σ' ∧ (TB σ0 → TB σ')) := by
  obtain ⟨v1, v2, v3, v4, v5, v6, v7, v8, v9⟩ := vd_facts hv
  have l7 : (mdL m).length ≤ 60 := hl.2.2.2.2.2.2.1
  have e115 := hM.2.2.2.2.2.2.1.2
  have htb : tbN m ≤ 100 := (lim_le v4).1
  refine allR (l := mdL m) (p := fun x => decide (eo x + x.2.2.length ≤ tbN m)) (W := fun k2 => Wq 239 (d + 1) 111 [some (.ref 103), none, none, some (.int (nI k2))] [] σ (Qi fun r σ' => modM t k b σ0 r σ' ∧ (TB σ0 → TB σ'))) (Y := fun b => b = mkOk m) rfl (fun h => ?_) fun k2 x hx hn hF => ?_
  · refine S_M_module_111 ?_
    rw [h38, nI_clamp (n := b) (by omega), e115]
    refine ⟨vp_in_nI hb (by decide), pk_le (mdL m).length (mdL m).length (fun _ => ?_) fun z => absurd z (by omega)⟩
    refine (m_makes (d := d) hb h38 hM hl hf v3 htb h.symm).mono fun y σ1 hy => ?_
    obtain ⟨rfl, a1, a2, a3, a4⟩ := Qv_s hy
    have hz : ∀ c j, 105 ≤ c → c ≤ 138 → sMm c j = false := fun c j h1 h2 => by
      unfold sMm
      rw [beq_ne (show c ≠ 103 by omega), beq_ne (show c ≠ 146 by omega), beq_ne (show c ≠ 147 by omega), beq_ne (show c ≠ 148 by omega)]
      rfl
    show modM t k b σ0 1 σ1 ∧ _
    unfold modM
    rw [hp]
    exact ⟨.inr (.inr ⟨hv, h.symm, rfl, (f0.mono fun c j q => by rw [q]; rfl).tr (a1.mono fun c j q => by rw [q, Bool.or_true]), (a1 103 1 rfl).1.trans h1, (a1 103 2 rfl).1.trans h2, hM.fr hl a1 hz, fun j hj => (a1 _ _ (hz 105 _ (by decide) (by decide))).1.trans (h105 j hj), a2, a3, a4⟩), fun q => (hTB q).eq fun j => (a1 _ _ (hz 105 j (by decide) (by decide))).1⟩
  · have hk := get_lt hx
    have ho := eo_lt x
    obtain ⟨p1, q1, q2, q3, q4⟩ := hM.2.2.2.2.2.2.1.1 k2 x hx
    have hA1 : (mdA m).length = 1 := by
      unfold vEl at v8
      rw [Bool.and_eq_true] at v8
      have := List.all_eq_true.mp v8.1 x (List.mem_of_getElem? hx)
      rw [Bool.and_eq_true, decide_eq_true_iff, decide_eq_true_iff] at this
      omega
    have e118 : σ.2.1 118 b = lN (tbN m) := by
      have := (hM.2.2.1.1 0 _ (li_first hA1) rfl).1
      rw [this]
      unfold tbN lsN
      rw [if_pos hA1]
    refine S_M_module_111 ?_
    rw [h38, nI_clamp (n := b) (by omega), e115, ex, nI_clamp (n := 60 * b + k2) (by omega), q2, q3, eo_and, e118, nI_l (by omega), lg_cmp_le, show lN (eo x) + lN x.2.2.length = lN (eo x + x.2.2.length) from (Int64.ofNat_add _ _).symm, pk_lLE (by omega) (by omega)]
    refine ⟨vp_in_nI hb (by decide), pk_le (mdL m).length k2 (fun z => absurd z (by omega)) fun _ => ⟨vp_in_nI (by omega) (by decide), vp_in_nI (by omega) (by decide), vp_in_nI hb (by decide), fun z => ?_, fun z => ?_⟩⟩
    · rw [nI_1]
      exact hn (decide_eq_true z)
    · show modM t k b σ0 (-4) σ ∧ _
      unfold modM
      rw [hp]
      exact ⟨.inr (.inl ⟨hv, (hF (decide_eq_false z)).symm, rfl, f0, h1, h2⟩), hTB⟩
theorem w_mo26 {σ0 : fkS} (hb : b < 2) (h38 : σ0.1 103 38 = nI b) (hT : ∀ j, j < k → σ0.1 104 j = bI (t j)) (hk : k ≤ 4000) {Q : Option Value → fkS → Prop} (hQ : ∀ σ', σ'.2 = σ0.2 → (∀ c j, ¬ (c = 105 ∧ 4000 * b ≤ j ∧ j < 4000 * b + 4000) → σ'.1 c j = σ0.1 c j) → (∀ j, j < k → σ'.1 105 (4000 * b + j) = bI (t j)) → (TB σ0 → TB σ') → Wq 239 (d + 1) 26 [some (.ref 103), some (.int (nI k)), some (.int (nI k)), none] [] σ' Q) :
    ∀ (r i : Nat) (σ : fkS), i + r = k → σ.2 = σ0.2 → (∀ c j, ¬ (c = 105 ∧ 4000 * b ≤ j ∧ j < 4000 * b + 4000) → σ.1 c j = σ0.1 c j) → (∀ j, j < i → σ.1 105 (4000 * b + j) = bI (t j)) → (TB σ0 → TB σ) → Wq 239 (d + 1) 26 [some (.ref 103), some (.int (nI k)), some (.int (nI i)), none] [] σ Q
  | 0, i, σ, hi, h1, h2, h3, h4 => by
    have hi : i = k := by omega
    subst hi
    exact hQ σ h1 h2 h3 h4
  | r + 1, i, σ, hi, h1, h2, h3, h4 => by
    have e4 : (4000 : Int32) * nI b + nI i = nI (4000 * b + i) := by rw [show (4000 : Int32) = nI 4000 from rfl, nI_mul, nI_add]
    refine S_M_module_26 (pk_le k i (fun z => absurd z (by omega)) fun _ => ?_)
    rw [h2 103 38 (by omega), h38, e4, nI_clamp (n := 4000 * b + i) (by omega), nI_clamp (n := i) (by omega), h2 104 i (by omega), hT i (by omega), nI_1]
    refine ⟨vp_in_nI (by omega) (by decide), vp_in_nI (by omega) (by decide), ?_⟩
    refine w_mo26 hb h38 hT hk hQ r (i + 1) _ (by omega) h1 (fun c j hcj => (sI_ne2 fun z => hcj ⟨z.1, by omega, by omega⟩).trans (h2 c j hcj)) (fun j hj => ?_) fun q => (h4 q).set
    rw [sI3]
    by_cases z : j = i
    · subst z
      rw [if_pos rfl]
    · rw [if_neg (by omega)]
      exact h3 j (by omega)
theorem m_module (hM : tM σ t n) (hn : n ≤ 4000) (hk : k ≤ n) (hb : b < 2) (h37 : σ.1 103 37 = nI (1 - b)) : Ci (d + 11) 239 [.ref 103, .int (nI k)] σ (fun r σ' => modM t k b σ r σ' ∧ (TB σ → TB σ')) := by
  refine S_M_module (d := d + 10) ⟨fun z => absurd z (nI_pos (by omega)), fun _ => ⟨fun _ => ?_, fun z => absurd (by rw [hM.1]; exact nI_le hk (by omega)) z⟩⟩
  have e1b : (1 : Int32) - nI (1 - b) = nI b := by
    rw [show (1 : Int32) = nI 1 from rfl, nI_sub (by omega)]
    congr 1
    omega
  rw [h37, e1b]
  have fr0 : ∀ (c j : Nat) (v : Int32) (υ : fkS), (Nat.beq c 103 && (Nat.beq j 1 || Nat.beq j 2 || Nat.beq j 38 || Nat.beq j 58)) = true → Fr (sMF b) σ υ → Fr (sMF b) σ (sI υ c j v) := fun c j v υ h f => f.sI (by
    unfold sMF
    rw [h, Bool.or_true, Bool.true_or])
  refine w_mo26 (d := d + 10) (t := t) (σ0 := sI σ 103 38 (nI b)) hb rfl (fun j hj => hM.2 j (by omega)) (by omega) (fun σ1 a1 a2 a3 a4 => ?_) k 0 _ (by omega) rfl (fun _ _ _ => rfl) (fun j hj => absurd hj (Nat.not_lt_zero j)) id
  have hTB1 : TB σ → TB (sI (sI (sI σ1 103 1 (0 : Int32)) 103 2 (-1 : Int32)) 103 58 (nI k)) := a4
  have f1 : Fr (sMF b) σ σ1 := (fr0 103 38 (nI b) σ rfl Fr.rf).tr fun c j hcj => by
    refine ⟨a2 c j fun z => ?_, by rw [a1], by rw [a1]⟩
    obtain ⟨rfl, z1, z2⟩ := z
    have : bk 4000 b j = true := by
      have := bk_in (m := 4000) (b := b) (k := j - 4000 * b) (by omega)
      rwa [show 4000 * b + (j - 4000 * b) = j by omega] at this
    unfold sMF at hcj
    rw [this, show Nat.beq 105 105 = true from rfl, Bool.and_self, Bool.or_true] at hcj
    cases hcj
  refine S_M_module_26 (d := d + 10) (pk_le k k (fun _ => ?_) fun z => absurd z (by omega))
  have h38 : (sI (sI (sI σ1 103 1 (0 : Int32)) 103 2 (-1 : Int32)) 103 58 (nI k)).1 103 38 = nI b := a2 103 38 (by omega)
  have f2 : Fr (sMF b) σ (sI (sI (sI σ1 103 1 (0 : Int32)) 103 2 (-1 : Int32)) 103 58 (nI k)) := fr0 _ _ _ _ rfl (fr0 _ _ _ _ rfl (fr0 _ _ _ _ rfl f1))
  have k1 : (sI (sI (sI σ1 103 1 (0 : Int32)) 103 2 (-1 : Int32)) 103 58 (nI k)).1 103 1 = 0 := rfl
  have k2 : (sI (sI (sI σ1 103 1 (0 : Int32)) 103 2 (-1 : Int32)) 103 58 (nI k)).1 103 2 = -1 := rfl
  have k58 : (sI (sI (sI σ1 103 1 (0 : Int32)) 103 2 (-1 : Int32)) 103 58 (nI k)).1 103 58 = nI k := rfl
  have h105 : ∀ j, j < k → (sI (sI (sI σ1 103 1 (0 : Int32)) 103 2 (-1 : Int32)) 103 58 (nI k)).1 105 (4000 * b + j) = bI (t j) := a3
  generalize sI (sI (sI σ1 103 1 (0 : Int32)) 103 2 (-1 : Int32)) 103 58 (nI k) = τ at *
  refine (m_reads (d := d) hb h38 (by omega) h105).mono fun x σ2 hx => ?_
  obtain ⟨rfl, f3, hm⟩ := Qv_s hx
  have x1 : sMX b 103 1 = false ∧ sMX b 103 2 = false ∧ sMX b 103 58 = false ∧ sMX b 103 38 = false ∧ ∀ j, sMX b 105 j = false := ⟨rfl, rfl, rfl, rfl, fun _ => rfl⟩
  have f4 : Fr (sMF b) σ σ2 := f2.tr (f3.mono fun c j q => by unfold sMF; rw [q]; rfl)
  have y1 : σ2.1 103 1 = 0 := (f3 _ _ x1.1).1.trans k1
  have y2 : σ2.1 103 2 = -1 := (f3 _ _ x1.2.1).1.trans k2
  have y58 : σ2.1 103 58 = nI k := (f3 _ _ x1.2.2.1).1.trans k58
  have y38 : σ2.1 103 38 = nI b := (f3 _ _ x1.2.2.2.1).1.trans h38
  have y105 : ∀ j, j < k → σ2.1 105 (4000 * b + j) = bI (t j) := fun j hj => (f3 _ _ (x1.2.2.2.2 _)).1.trans (h105 j hj)
  have hTB2 : TB σ → TB σ2 := fun q => (hTB1 q).eq fun j => (f3 _ _ (x1.2.2.2.2 _)).1
  show _ ∧ _
  cases hp : pMo t k with
  | inr y =>
    obtain ⟨w, pl⟩ := y
    rw [hp] at hm
    obtain ⟨m1, m2, m3⟩ := hm
    rw [m2, m3]
    refine ⟨fun z => absurd z m1, fun _ => ?_⟩
    show modM t k b σ w _ ∧ _
    unfold modM
    rw [hp]
    exact ⟨⟨rfl, fr0 _ _ _ _ rfl f4, y1, rfl⟩, hTB2⟩
  | inl y =>
    obtain ⟨m, q⟩ := y
    rw [hp] at hm
    obtain ⟨hMX, hl, m3⟩ := hm
    obtain ⟨hf, hok, hC4, hEl⟩ := pMo_ok (by omega) hl hp
    have hK : KM t k b m σ2 := ⟨hb, y38, hMX, y105, by omega⟩
    rw [m3]
    refine ⟨fun _ => ?_, fun z => absurd rfl z⟩
    refine (m_verdict (d := d + 3) hl hf hK hok hC4 (pMo_rd hp) y58 m3).mono fun x σ3 hx => ?_
    obtain ⟨v, rfl, rfl, f5⟩ := Qi_s hx
    have f6 : Fr (sMF b) σ σ3 := f4.tr (f5.mono fun c j q => by unfold sMF; rw [q, Bool.or_true]; rfl)
    have z1 : σ3.1 103 1 = 0 := (f5 103 1 rfl).1.trans y1
    have z2 : σ3.1 103 2 = -1 := (f5 103 2 rfl).1.trans y2
    have hK3 := hK.fv hl f5
    have hTB3 : TB σ → TB σ3 := fun q => (hTB2 q).eq fun j => (f5 105 j (sMv_mid (by decide) (by decide))).1
    show _ ∧ _
    refine ⟨fun z => ?_, fun z => ?_⟩
    · exact w_mo111 (d := d + 10) hb hp hl hf z hK3.2.1 hK3.2.2.1 hK3.2.2.2.1 f6 z1 z2 hTB3
    · show modM t k b σ (vdM t m) σ3 ∧ _
      unfold modM
      rw [hp]
      exact ⟨.inl ⟨z, rfl, f6, z1, z2⟩, hTB3⟩
end MODX
