/-! SECTIONS: the reference; rows of one kind, for each of them -/
theorem bk_sub {b k j : Nat} (hk : k < 60) (h : bk 60 (60 * b + k) j = true) : bk 3600 b j = true := by
  unfold bk at h ⊢
  rw [Bool.and_eq_true] at h ⊢
  have h1 := Nat.le_of_ble_eq_true h.1
  have h2 := Nat.blt_eq.mp h.2
  exact ⟨Nat.ble_eq.mpr (by omega), Nat.blt_eq.mpr (by omega)⟩
theorem bk_sub50 {b k j : Nat} (hk : k < 60) (h : bk 50 (60 * b + k) j = true) : bk 3000 b j = true := by
  unfold bk at h ⊢
  rw [Bool.and_eq_true] at h ⊢
  have h1 := Nat.le_of_ble_eq_true h.1
  have h2 := Nat.blt_eq.mp h.2
  exact ⟨Nat.ble_eq.mpr (by omega), Nat.blt_eq.mpr (by omega)⟩
theorem bk_pt {b k j : Nat} (hk : k < 60) (h : Nat.beq j (60 * b + k) = true) : bk 60 b j = true := by
  have := Nat.eq_of_beq_eq_true h
  subst this
  exact bk_in hk
theorem beq_ne {a c : Nat} (h : a ≠ c) : Nat.beq a c = false := Bool.eq_false_iff.mpr fun z => h (Nat.eq_of_beq_eq_true z)
section SCM
variable {t : Nat → UInt8} {b n e d : Nat}
theorem w_ms32 {α : Type} {r : Nat → α → fkS → Prop} {s : Nat → Nat → Nat → Bool} {S : Nat → Nat → Bool} {P : Nat → Rr α} {id : Int32} {m : Nat} (hm : m ≤ 60)
    (hS : ∀ k, k < 60 → ∀ c j, s k c j = true → S c j = true) (other : ∀ k k2 x σ σ', k2 ≠ k → k2 < 60 → k < 60 → r k2 x σ → Fr (s k) σ σ' → r k2 x σ')
    (hstep : ∀ (k p : Nat) (σ : fkS), k < 60 → RM t b n e p σ → σ.1 103 42 = 0 → Cv (d + 6) 251 [.ref 103, .int id, .int (nI k)] σ (fun σ' => YM t b n e (s k) (r k) (P p) σ σ'))
    {Q : Option Value → fkS → Prop} {σ0 : fkS} {R : Rr (List α)}
    (kok : ∀ l q σ', R = .inl (l, q) → Fr S σ0 σ' → (∀ k x, l[k]? = some x → r k x σ') → RM t b n e q σ' → σ'.1 103 42 = 0 → Wq 248 (d + 7) 56 [some (.ref 103), some (.int id), some (.int (nI m)), none] [] σ' Q)
    (kft : ∀ w pl σ', R = .inr (w, pl) → Fr S σ0 σ' → ZM t b n e w pl σ' → Wq 248 (d + 7) 56 [some (.ref 103), some (.int id), some (.int (nI m)), none] [] σ' Q) :
    ∀ (c p : Nat) (l : List α) (σ : fkS), l.length + c = m → pMn P c l p = R → Fr S σ0 σ → (∀ k x, l[k]? = some x → r k x σ) → RM t b n e p σ → σ.1 103 42 = 0 → Wq 248 (d + 7) 32 [some (.ref 103), some (.int id), some (.int (nI m)), some (.int (nI l.length))] [] σ Q
  | 0, p, l, σ, hl, hR, f0, hr, h, hf => S_M_section_32 ⟨fun _ => kok l p σ hR.symm f0 hr h hf, fun z => absurd (nI_le (by omega) (by omega)) z⟩
  | c + 1, p, l, σ, hl, hR, f0, hr, h, hf => by
    rw [pMn] at hR
    refine S_M_section_32 ⟨fun z => absurd z (nI_ge (by omega) (by omega)), fun _ => ⟨fun z => absurd hf z, fun _ => ?_⟩⟩
    have hk : l.length < 60 := by omega
    refine qY (hstep l.length p σ hk h hf) (fun x q σ1 hP f1 hx hR1 hf1 => ?_) fun w pl σ1 hP f1 hZ => ?_
    · rw [hP] at hR
      have ih := w_ms32 hm hS other hstep kok kft c q (l ++ [x]) σ1 (by rw [List.length_append]; show l.length + 1 + c = m; omega) hR (f0.tr (f1.mono (hS _ hk))) (fun k y hy => ?_) hR1 hf1
      · have hlen : nI (l ++ [x]).length = nI l.length + 1 := by rw [List.length_append]; exact nI_succ _
        rw [hlen] at ih
        exact ih
      · rcases get_snoc hy with ⟨hy, hk2⟩ | ⟨rfl, rfl⟩
        · exact other l.length k y σ σ1 (by omega) (by omega) hk (hr k y hy) f1
        · exact hx
    · rw [hP] at hR
      have fin := kft w pl σ1 hR.symm (f0.tr (f1.mono (hS _ hk))) hZ
      exact S_M_section_32 ⟨fun _ => fin, fun _ => ⟨fun _ => fin, fun z => absurd z hZ.nz⟩⟩
/-- a section of a row of things -/
theorem w_msec {α : Type} {r : Nat → α → fkS → Prop} {s : Nat → Nat → Nat → Bool} {S : Nat → Nat → Bool} {P : Nat → Rr α} {id : Int32} {cc p : Nat} {σ : fkS} (hid : ¬ id = 0) (h : RM t b n e p σ) (hf : σ.1 103 42 = 0)
    (hfS : ∀ c j, fM c j = true → S c j = true) (hcS : S cc b = true) (hcc : (Nat.beq cc 105 || Nat.beq cc 103) = false)
    (hS : ∀ k, k < 60 → ∀ c j, s k c j = true → S c j = true) (other : ∀ k k2 x σ σ', k2 ≠ k → k2 < 60 → k < 60 → r k2 x σ → Fr (s k) σ σ' → r k2 x σ')
    (hcr : ∀ k x σ v, r k x σ → r k x (sI σ cc b v))
    (hstep : ∀ (k p : Nat) (σ : fkS), k < 60 → RM t b n e p σ → σ.1 103 42 = 0 → Cv (d + 6) 251 [.ref 103, .int id, .int (nI k)] σ (fun σ' => YM t b n e (s k) (r k) (P p) σ σ'))
    (h56 : ∀ (σ : fkS) (v : Int32) (Q : Option Value → fkS → Prop), σ.1 103 38 = nI b → Q none (sI σ cc b v) → Wq 248 (d + 7) 56 [some (.ref 103), some (.int id), some (.int v), none] [] σ Q) :
    Cv (d + 7) 248 [.ref 103, .int id] σ (fun σ' => YM t b n e S (fun l σ' => (∀ k x, l[k]? = some x → r k x σ') ∧ σ'.1 cc b = nI l.length) (pVc t e P p) σ σ') := by
  refine S_M_section ⟨fun _ => ?_, fun z => absurd z hid⟩
  refine qI h hf (mV h hf) (fun m q x hR hv hR1 hf1 => ?_) fun w pl x σ1 hR hr0 hZ f1 => ?_
  · subst hv
    obtain ⟨-, hm, -, -⟩ := nV_l hR
    have hp : pVc t e P p = pMn P m [] q := by unfold pVc; rw [hR]; rfl
    rw [hp]
    refine w_ms32 (d := d) (σ0 := σ) (R := pMn P m [] q) hm hS other hstep (fun l q2 σ2 hl f2 hr hR2 hf2 => ?_) (fun w pl σ2 hl f2 hZ => ?_) m q [] (okM σ q) (Nat.zero_add _) rfl (okM_fr.mono hfS) (fun k x hx => by cases hx) hR1 hf1
    · refine h56 σ2 (nI m) _ hR2.2.1 ⟨f2.sI hcS, ?_⟩
      rw [hl]
      have hlen := pMn_len _ _ _ _ _ hl
      refine ⟨⟨fun k x hx => hcr k x _ _ (hr k x hx), ?_⟩, hR2.sI (ew hcc), g0_sI hf2 hcc⟩
      rw [sI_ss, hlen]
      congr 1
      exact (Nat.zero_add m).symm
    · refine h56 σ2 (nI m) _ hZ.1.choose_spec.2.1 ⟨f2.sI hcS, ?_⟩
      rw [hl]
      exact hZ.sI (ew hcc)
  · subst hr0
    have hp : pVc t e P p = .inr (w, pl) := by unfold pVc; rw [hR]; rfl
    refine S_M_section_32 ⟨fun _ => ?_, fun z => absurd (by decide) z⟩
    refine h56 σ1 0 _ hZ.1.choose_spec.2.1 ⟨(f1.mono hfS).sI hcS, ?_⟩
    rw [hp]
    exact hZ.sI (ew hcc)
end SCM
