/-! READING NUMBERS, the reference's side -/
/-- the reference's reader stands in bank b -/
def RM (t : Nat → UInt8) (b n e p : Nat) (σ : fkS) : Prop := b < 2 ∧ σ.1 103 38 = nI b ∧ (∀ k, k < n → σ.1 105 (4000 * b + k) = bI (t k)) ∧ n ≤ 4000 ∧ e ≤ n ∧ σ.1 103 41 = nI e ∧ σ.1 103 40 = nI p ∧ p ≤ 4000
def flM (σ : fkS) (w q : Int32) : fkS := if σ.1 103 42 = 0 then sI (sI σ 103 42 w) 103 43 q else σ
theorem c_fails {d : Nat} {w q : Int32} {σ : fkS} : Cv d 244 [.ref 103, .int w, .int q] σ (fun σ' => σ' = flM σ w q) := by
  refine S_M_fails ⟨fun z => ?_, fun z => ?_⟩
  · show _ = flM σ w q
    unfold flM
    rw [if_pos z]
  · show _ = flM σ w q
    unfold flM
    rw [if_neg z]
theorem RM.at {t : Nat → UInt8} {b n e p q : Nat} {σ : fkS} (h : RM t b n e p σ) (hq : q ≤ 4000) : RM t b n e q (sI σ 103 40 (nI q)) := by
  obtain ⟨h0, h1, h2, h3, h4, h5, h6, h7⟩ := h
  refine ⟨h0, ?_, fun k hk => ?_, h3, h4, ?_, sI_ss, hq⟩
  · rw [sI_so (by decide)]
    exact h1
  · rw [sI_o (by decide)]
    exact h2 k hk
  · rw [sI_so (by decide)]
    exact h5
theorem nI_mul (a b : Nat) : nI a * nI b = nI (a * b) := by
  unfold nI
  rw [Int32.ofNat_mul]
theorem c_here {d b n e p : Nat} {t : Nat → UInt8} {σ : fkS} (h : RM t b n e p σ) (hp : p < e) : Ci d 247 [.ref 103] σ (fun r σ' => r = bI (t p) ∧ σ' = σ) := by
  obtain ⟨h0, h1, h2, h3, h4, h5, h6, h7⟩ := h
  have e1 : ((4000 : Int32) * (σ.1 103 38)) + (σ.1 103 40) = nI (4000 * b + p) := by
    rw [h1, h6, show (4000 : Int32) = nI 4000 from rfl, nI_mul, nI_add]
  refine S_M_here ?_
  rw [e1]
  refine ⟨vp_in_nI (by omega) (by decide), ?_, rfl⟩
  rw [nI_clamp (by omega)]
  exact h2 p (by omega)
def uM (t : Nat → UInt8) (e p f : Nat) (acc : Int64) (σ : fkS) (w : Nat) (r : Int64) (σ' : fkS) : Prop := match u32 t e f p acc with
  | some (v, q) => r = v ∧ σ' = sI σ 103 40 (nI q)
  | none => r = 0 ∧ ∃ q, p ≤ q ∧ (q ≤ e ∨ q = p) ∧ σ' = flM (sI σ 103 40 (nI q)) (-1) (nI w)
theorem w_u32 {d b n e w : Nat} {t : Nat → UInt8} : ∀ (f k p : Nat) (acc : Int64) (σ : fkS), k + f = 5 → RM t b n e p σ → Wq 246 (d + 1) 19 [some (.ref 103), some (.int (nI w)), some (.long acc), none, some (.int (nI k)), none] [] σ (Qj fun r σ' => uM t e p f acc σ w r σ')
  | 0, k, p, acc, σ, hk, h => by
    refine S_M_u32_19 ⟨fun _ => ?_, fun z => absurd (nI_leI (a := 5) (by decide) (by omega) |>.mpr (by omega)) z⟩
    refine c_fails.mono fun x σ1 hx => ?_
    obtain ⟨rfl, rfl⟩ := Qv_s hx
    show uM t e p 0 acc σ w 0 _
    unfold uM u32
    exact ⟨rfl, p, Nat.le_refl _, Or.inr rfl, by rw [sI_id h.2.2.2.2.2.2.1]⟩
  | f + 1, k, p, acc, σ, hk, h => by
    have hn := h.2.2.2.1
    have he := h.2.2.2.2.1
    have hp : p < 2 ^ 31 := by have := h.2.2.2.2.2.2.2; omega
    refine S_M_u32_19 ⟨fun z => absurd ((nI_leI (a := 5) (by decide) (by omega)).mp z) (by omega), fun _ => ⟨fun z => ?_, fun z => ?_⟩⟩
    · rw [h.2.2.2.2.2.1, h.2.2.2.2.2.2.1] at z
      have hz : p < e := (nI_ltI hp (by omega)).mp z
      have h1 : RM t b n e (p + 1) (sI σ 103 40 (nI (p + 1))) := h.at (by omega)
      have go : ¬ (f = 0 ∧ 16 ≤ (t p).toNat) → Wq 246 (d + 1) 76 [some (.ref 103), some (.int (nI w)), some (.long acc), none, some (.int (nI k)), some (.int (bI (t p)))] [] (sI σ 103 40 (nI (p + 1))) (Qj fun r σ' => uM t e p (f + 1) acc σ w r σ') := by
        intro hf
        have ek : 4 - f = k := by omega
        refine S_M_u32_76 ⟨fun y => ?_, fun y => ?_⟩
        · have y1 := (bI_le (b := t p) (n := 128) (by decide)).mp y
          have ih := w_u32 (d := d) (w := w) f (k + 1) (p + 1) (u7 acc (t p) k) (sI σ 103 40 (nI (p + 1))) (by omega) h1
          rw [show nI (k + 1) = nI k + 1 from nI_succ k] at ih
          refine ih.mono fun x σ' hx => ?_
          obtain ⟨r, rfl, hu⟩ := Qj_s hx
          show uM t e p (f + 1) acc σ w r σ'
          unfold uM at hu ⊢
          rw [u32, if_pos hz, if_neg hf, if_pos y1, ek]
          split at hu
          next v q hq => exact ⟨hu.1, by rw [hu.2, sI_sI]⟩
          next hq =>
            obtain ⟨rfl, q, q1, q2, rfl⟩ := hu
            exact ⟨rfl, q, by omega, by omega, by rw [sI_sI]⟩
        · have y1 : ¬ 128 ≤ (t p).toNat := fun y2 => y ((bI_le (b := t p) (n := 128) (by decide)).mpr y2)
          show uM t e p (f + 1) acc σ w _ _
          unfold uM
          rw [u32, if_pos hz, if_neg hf, if_neg y1, ek]
          exact ⟨rfl, rfl⟩
      refine (c_here h hz).mono fun x σ2 hx => ?_
      obtain ⟨r, rfl, rfl, rfl⟩ := Qi_s hx
      have e40 : σ2.1 103 40 + 1 = nI (p + 1) := by rw [h.2.2.2.2.2.2.1]; exact nI_1 p
      unfold Qi
      simp only [e40]
      refine ⟨fun y => go fun y2 => y ?_, fun y => ⟨fun y2 => go fun y3 => ?_, fun y2 => ?_⟩⟩
      · have : k = 4 := by omega
        rw [this]
        rfl
      · have := (bI_ge (b := t p) (n := 15) (by decide)).mp y2
        omega
      · have hk4 : k = 4 := (nI_eq (b := 4) (by omega) (by decide)).mp y
        have h16 : 16 ≤ (t p).toNat := Nat.not_lt.mp fun y3 => y2 ((bI_ge (b := t p) (n := 15) (by decide)).mpr (by omega))
        refine c_fails.mono fun x σ1 hx => ?_
        obtain ⟨rfl, rfl⟩ := Qv_s hx
        show uM t e p (f + 1) acc σ2 w 0 _
        unfold uM
        rw [u32, if_pos hz, if_pos ⟨by omega, h16⟩]
        exact ⟨rfl, p + 1, by omega, by omega, rfl⟩
    · rw [h.2.2.2.2.2.1, h.2.2.2.2.2.2.1] at z
      have hz : e ≤ p := by
        refine Nat.not_lt.mp fun y => ?_
        exact z ((nI_ltI hp (by omega)).mpr y)
      refine c_fails.mono fun x σ1 hx => ?_
      obtain ⟨rfl, rfl⟩ := Qv_s hx
      show uM t e p (f + 1) acc σ w 0 _
      unfold uM u32
      rw [if_neg (by omega)]
      exact ⟨rfl, p, Nat.le_refl _, Or.inr rfl, by rw [sI_id h.2.2.2.2.2.2.1]⟩
/-- the class reads an unsigned number -/
theorem c_unsigned {d n e p : Nat} {t : Nat → UInt8} {σ : fkS} (h : RX t n e p σ) : Dj (d + 1) 26 [.ref 46] σ (fun r σ' => uX t e p 5 0 σ p r σ') := by
  refine S_Scan_unsigned ?_
  rw [h.2.2.2.2.2.1]
  exact w_unsigned 5 0 p 0 σ rfl h
/-- the reference reads one -/
theorem c_u32 {d b n e p : Nat} {t : Nat → UInt8} {σ : fkS} (h : RM t b n e p σ) (hf : σ.1 103 42 = 0) : Cj (d + 1) 246 [.ref 103] σ (fun r σ' => uM t e p 5 0 σ p r σ') := by
  refine S_M_u32 ⟨fun _ => ?_, fun z => absurd hf z⟩
  rw [h.2.2.2.2.2.2.1]
  exact w_u32 5 0 p 0 σ rfl h
theorem c_u32_z {d : Nat} {σ : fkS} (hf : ¬ σ.1 103 42 = 0) : Cj (d + 1) 246 [.ref 103] σ (fun r σ' => r = 0 ∧ σ' = σ) :=
  S_M_u32 ⟨fun z => absurd z hf, fun _ => ⟨rfl, rfl⟩⟩
