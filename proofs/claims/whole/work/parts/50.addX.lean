/-! CODES: the class adds a row -/
def alI (a : Int32) : Bool := decide (a = 0) || decide (a = 1) || decide (a = 15) || decide (a = 26) || decide (a = 27) || (decide (¬ a < 69) && decide (a ≤ 90)) || (decide (¬ a < 103) && decide (a ≤ 138)) || decide (a = 167) || decide (a = 172) || decide (a = 173)
def alz (v : Nat) : Bool := alI (nI v)
theorem c_alone {d : Nat} {a : Int32} {σ : fkS} : Di d 36 [.int a] σ (fun r σ' => r = b2i (alI a) ∧ σ' = σ) := by
  refine S_CodeReader_isAlone ?_
  repeat' (first | (refine S_CodeReader_isAlone_39 ?_) | (apply And.intro) | (intro _))
  all_goals first | rfl | (simp [alI, b2i, *]; done)
theorem c_plainM {d : Nat} {a : Int32} {σ : fkS} : Ci d 264 [.int a] σ (fun r σ' => r = b2i (alI a) ∧ σ' = σ) := by
  refine S_M_isPlain ?_
  repeat' (first | (refine S_M_isPlain_39 ?_) | (apply And.intro) | (intro _))
  all_goals first | rfl | (simp [alI, b2i, *]; done)
def hnI (a : Int32) : Bool := decide (a = 16) || (decide (¬ a < 32) && decide (¬ 36 < a))
theorem c_hasNumber {d : Nat} {a : Int32} {σ : fkS} : Di d 41 [.int a] σ (fun r σ' => r = b2i (hnI a) ∧ σ' = σ) := by
  refine S_CodeReader_hasNumber ?_
  repeat' (first | (apply And.intro) | (intro _))
  all_goals first | rfl | (simp [hnI, b2i, *]; done)
theorem hn_nat : ∀ v : Fin 256, hnI (nI v.val) = true ↔ (v.val = 16 ∨ (32 ≤ v.val ∧ v.val ≤ 36)) := by decide +kernel
theorem al_nat : ∀ v : Fin 256, alz v.val = true → rfz v.val = false ∧ v.val ≠ 14 ∧ v.val ≠ 12 ∧ v.val ≠ 13 ∧ v.val ≠ 16 ∧ ¬ (32 ≤ v.val ∧ v.val ≤ 36) ∧ v.val ≠ 17 ∧ v.val ≠ 63 ∧ v.val ≠ 64 ∧ v.val ≠ 65 ∧ v.val ≠ 66 ∧ ¬ (40 ≤ v.val ∧ v.val ≤ 62) ∧ ¬ (2 ≤ v.val ∧ v.val ≤ 5) ∧ v.val ≠ 11 := by decide +kernel
theorem rf_nat : ∀ v : Fin 256, rfz v.val = true → v.val ≠ 14 ∧ v.val ≠ 12 ∧ v.val ≠ 13 ∧ v.val ≠ 16 ∧ ¬ (32 ≤ v.val ∧ v.val ≤ 36) ∧ v.val ≠ 17 ∧ v.val ≠ 63 ∧ v.val ≠ 64 ∧ v.val ≠ 65 ∧ v.val ≠ 66 ∧ ¬ (2 ≤ v.val ∧ v.val ≤ 5) ∧ v.val ≠ 11 := by decide +kernel
def sDC (c j : Nat) : Bool := f46 c j || (Nat.beq c 36 && (Nat.beq j 5 || Nat.beq j 9)) || Nat.beq c 41 || Nat.beq c 42 || Nat.beq c 43 || Nat.beq c 44 || (Nat.beq c 48 && Nat.beq j 1) || Nat.beq c 49
theorem Fr.f46C {σ σ' : fkS} (h : Fr f46 σ σ') : Fr sDC σ σ' := h.mono fun c j h => by unfold sDC; rw [h]; rfl
/-- σ is σ0 with one more row, and labels -/
def AddR (C : List In) (σ0 σ : fkS) (op : Nat) (fi : Int64) (se : Int32) (ls : List Nat) : Prop :=
  Fr sDC σ0 σ ∧ σ.1 36 5 = nI (C.length + 1) ∧ σ.1 36 9 = nI ((lbs C).length + ls.length) ∧ (∀ k, σ.1 41 k = if k = C.length then nI op else σ0.1 41 k) ∧ (∀ k, σ.2.1 42 k = if k = C.length then fi else σ0.2.1 42 k) ∧ (∀ k, σ.1 43 k = if k = C.length then se else σ0.1 43 k) ∧ (∀ j, j < (lbs C).length → σ.1 44 (3 * j) = σ0.1 44 (3 * j)) ∧ (∀ j B, ls[j]? = some B → σ.1 44 (3 * ((lbs C).length + j)) = nI B) ∧ σ.1 48 1 = σ0.1 48 1 ∧ ∀ k, σ.1 49 k = σ0.1 49 k
section ADDR
variable {C : List In} {σ0 σ σ' : fkS} {op : Nat} {fi : Int64} {se : Int32} {ls : List Nat}
theorem AddR.fr (h : AddR C σ0 σ op fi se ls) (f : Fr f46 σ σ') : AddR C σ0 σ' op fi se ls := by
  obtain ⟨h0, h1, h2, h3, h4, h5, h6, h7, h8, h9⟩ := h
  exact ⟨h0.tr f.f46C, (f 36 5 rfl).1.trans h1, (f 36 9 rfl).1.trans h2, fun k => (f 41 k rfl).1.trans (h3 k), fun k => (f 42 k rfl).2.1.trans (h4 k), fun k => (f 43 k rfl).1.trans (h5 k), fun j hj => (f 44 _ rfl).1.trans (h6 j hj), fun j B hB => (f 44 _ rfl).1.trans (h7 j B hB), (f 48 1 rfl).1.trans h8, fun k => (f 49 k rfl).1.trans (h9 k)⟩
theorem AddR.setF (h : AddR C σ0 σ op fi se ls) (v : Int64) : AddR C σ0 (sL σ 42 C.length v) op v se ls := by
  obtain ⟨h0, h1, h2, h3, h4, h5, h6, h7, h8, h9⟩ := h
  refine ⟨h0.sL rfl, h1, h2, h3, fun k => ?_, h5, h6, h7, h8, h9⟩
  rw [sL3, h4]
  split <;> rfl
theorem AddR.setS (h : AddR C σ0 σ op fi se ls) (v : Int32) : AddR C σ0 (sI σ 43 C.length v) op fi v ls := by
  obtain ⟨h0, h1, h2, h3, h4, h5, h6, h7, h8, h9⟩ := h
  refine ⟨h0.sI rfl, h1, h2, h3, h4, fun k => ?_, h6, h7, h8, h9⟩
  rw [sI3, h5]
  split <;> rfl
theorem AddR.lb (h : AddR C σ0 σ op fi se ls) (B : Nat) : AddR C σ0 (sI (sI σ 44 (3 * ((lbs C).length + ls.length)) (nI B)) 36 9 (σ.1 36 9 + 1)) op fi se (ls ++ [B]) := by
  obtain ⟨h0, h1, h2, h3, h4, h5, h6, h7, h8, h9⟩ := h
  refine ⟨(h0.sI rfl).sI rfl, ?_, ?_, h3, h4, h5, fun j hj => ?_, fun j B2 hB => ?_, h8, h9⟩
  · rw [sI_so (by decide)]
    exact h1
  · rw [sI_ss, h2, List.length_append]
    exact nI_1 _
  · rw [sI_o (by decide), sI_so (by omega)]
    exact h6 j hj
  · rw [sI_o (by decide), sI3]
    rcases get_snoc hB with ⟨hB, hk⟩ | ⟨rfl, rfl⟩
    · rw [if_neg (by omega)]
      exact h7 j B2 hB
    · rw [if_pos rfl]
theorem AddR.dc {i : In} (hD : DC C σ0) (h : AddR C σ0 σ op fi se ls) (hop : ¬ (2 ≤ op ∧ op ≤ 5) ∧ op ≠ 11) (h1 : iOp i = op) (h2 : fi = iFirst C C.length i) (h3 : se = nI (iS i)) (h4 : ls = iL i) : DC (C ++ [i]) σ := by
  subst h1
  subst h2
  subst h3
  subst h4
  obtain ⟨a0, a1, a2, a3, a4, a5, a6, a7, a8, a9⟩ := h
  refine hD.snoc a1 a2 a3 a4 (fun k hk _ => by rw [a5, if_neg (by omega)]) (fun _ => by rw [a5, if_pos rfl]) (fun o x r ho => absurd ho (by omega)) a6 a7 (fun k j _ ho => absurd ho (by omega)) ?_
  have hs : skS (sk C C.length) C.length (iOp i) = sk C C.length := by
    unfold skS
    rw [if_neg (by omega), if_neg (by omega), if_neg (by omega)]
  rw [hs]
  obtain ⟨b1, b2⟩ := hD.2.2.2.2.2
  exact ⟨a8.trans b1, fun k x hx => (a9 k).trans (b2 k x hx)⟩
end ADDR
theorem kAdd {t : Nat → UInt8} {n e p d op : Nat} {C : List In} {σ : fkS} (h : RX t n e p σ) (hf : σ.1 46 3 = 0) (hD : DC C σ) (hl : C.length < 4000) {x : Int32} (hx : x = nI op) {P : Int32 → fkS → Prop} (ok : ∀ σ', σ'.2.2 = σ.2.2 → RX t n e p σ' → σ'.1 46 3 = 0 → AddR C σ σ' op 0 0 [] → P (nI C.length) σ') : Di d 33 [.ref 36, .int x] σ P := by
  subst hx
  have h5 := hD.1
  refine S_CodeRows_add ⟨fun _ => ?_, fun z => absurd (by rw [h5]; exact nI_lt (b := 4000) hl (by decide)) z⟩
  rw [h5, nI_clamp (by omega), show nI C.length + (1 : Int32) = nI (C.length + 1) from nI_1 _]
  have hin : vp_in (nI C.length) 4000 := vp_in_nI hl (by decide)
  refine ⟨hin, hin, hin, rfl, ?_⟩
  have e1 : nI (C.length + 1) - (1 : Int32) = nI C.length := nI_pred _
  rw [e1]
  refine ok _ rfl ((((h.sI rfl).sL).sI rfl).sI rfl) (f0_sI (f0_sI (show (sL (sI σ 41 C.length (nI op)) 42 C.length 0).1 46 3 = 0 from hf) rfl) rfl) ?_
  refine ⟨(((Fr.rf.sI rfl).sL rfl).sI rfl).sI rfl, sI_ss, ?_, fun k => ?_, fun k => ?_, fun k => ?_, fun j hj => rfl, fun j B hB => absurd hB (by simp), rfl, fun k => rfl⟩
  · rw [sI_so (by decide)]
    exact hD.2.1
  · rw [sI_o (by decide), sI_o (by decide)]
    show (sI σ 41 C.length (nI op)).1 41 k = _
    rw [sI3]
  · show (sL (sI σ 41 C.length (nI op)) 42 C.length 0).2.1 42 k = _
    rw [sL3]
    rfl
  · rw [sI_o (by decide), sI3]
    rfl
theorem kLab {t : Nat → UInt8} {n e d op B : Nat} {C : List In} {σ0 σ : fkS} {fi : Int64} {se : Int32} {ls : List Nat} (h : AddR C σ0 σ op fi se ls) (hl : (lbs C).length + ls.length < 4000) {P : fkS → Prop} (ok : ∀ σ', σ'.2.2 = σ.2.2 → (∀ p, RX t n e p σ → RX t n e p σ') → (∀ w pl, ZX t n e w pl σ → ZX t n e w pl σ') → (σ.1 46 3 = 0 → σ'.1 46 3 = 0) → AddR C σ0 σ' op fi se (ls ++ [B]) → P σ') : Dv d 39 [.ref 36, .long (lN B)] σ P := by
  have h9 := h.2.2.1
  refine S_CodeRows_addLabel ⟨fun z => absurd z (by rw [h9]; exact nI_ge (b := 4000) hl (by decide)), fun _ => ?_⟩
  have e3 : (3 : Int32) * (σ.1 36 9) = nI (3 * ((lbs C).length + ls.length)) := by rw [h9, show (3 : Int32) = nI 3 from rfl, nI_mul]
  rw [e3, nI_clamp (by omega), lN_i]
  refine ⟨vp_in_nI (by omega) (by decide), rfl, ?_⟩
  exact ok _ rfl (fun p h => (h.sI rfl).sI rfl) (fun w pl h => (h.sI rfl).sI rfl) (fun h => f0_sI (f0_sI h rfl) rfl) (h.lb B)
