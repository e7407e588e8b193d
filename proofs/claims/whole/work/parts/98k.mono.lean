/-! READING of a text that agrees, within a larger end, gives the same -/
def agr (t t2 : Nat → UInt8) (e e2 : Nat) : Prop := e ≤ e2 ∧ ∀ k, k < e → t2 k = t k
theorem agr.le {t : Nat → UInt8} {e e2 : Nat} (h : e ≤ e2) : agr t t e e2 := ⟨h, fun _ _ => rfl⟩
theorem bR_mono {α β : Type} {R R2 : Rr α} {f f2 : α → Nat → Rr β} {x : β × Nat} (h : bR R f = .inl x) (h1 : ∀ a q1, R = .inl (a, q1) → R2 = .inl (a, q1)) (h2 : ∀ a q1, R = .inl (a, q1) → f a q1 = .inl x → f2 a q1 = .inl x) : bR R2 f2 = .inl x := by
  obtain ⟨b, q⟩ := x
  obtain ⟨a, q1, e1, e2⟩ := bR_inl h
  rw [h1 a q1 e1]
  exact h2 a q1 e1 e2
section MONO
variable {t t2 : Nat → UInt8} {e e2 : Nat}
theorem nN_mono {p q B : Nat} (ha : agr t t2 e e2) (h : nN t e p = .inl (B, q)) : nN t2 e2 p = .inl (B, q) := by
  obtain ⟨-, hB, hq, hp⟩ := nN_l h
  have := ha.1
  unfold nN
  rw [if_pos (show p < e2 by omega), ha.2 p hp, hB, hq]
theorem u32_mono (ha : agr t t2 e e2) : ∀ (f p : Nat) (acc v : Int64) (q : Nat), u32 t e f p acc = some (v, q) → u32 t2 e2 f p acc = some (v, q)
  | 0, _, _, _, _, h => by cases h
  | f + 1, p, acc, v, q, h => by
    have he := ha.1
    rw [u32] at h ⊢
    by_cases hp : p < e
    · rw [if_pos hp] at h
      rw [if_pos (show p < e2 by omega), ha.2 p hp]
      by_cases h1 : f = 0 ∧ 16 ≤ (t p).toNat
      · rw [if_pos h1] at h
        cases h
      · rw [if_neg h1] at h ⊢
        by_cases h2 : 128 ≤ (t p).toNat
        · rw [if_pos h2] at h ⊢
          exact u32_mono ha f _ _ _ _ h
        · rw [if_neg h2] at h ⊢
          exact h
    · rw [if_neg hp] at h
      cases h
theorem rU_mono {p q : Nat} {v : Int64} (ha : agr t t2 e e2) (h : rU t e p = .inl (v, q)) : rU t2 e2 p = .inl (v, q) := by
  unfold rU at h ⊢
  cases hu : u32 t e 5 p 0 with
  | none =>
    rw [hu] at h
    cases h
  | some x =>
    rw [hu] at h
    have hx : x = (v, q) := Sum.inl.inj h
    rw [u32_mono ha 5 p 0 x.1 x.2 hu]
    rw [hx]
theorem nU_mono {p q B : Nat} (ha : agr t t2 e e2) (h : nU t e p = .inl (B, q)) : nU t2 e2 p = .inl (B, q) := by
  unfold nU at h ⊢
  cases hr : rU t e p with
  | inr x =>
    rw [hr] at h
    cases h
  | inl x =>
    obtain ⟨v, q1⟩ := x
    rw [hr] at h
    rw [rU_mono ha hr]
    exact h
theorem nV_mono {p q B : Nat} (ha : agr t t2 e e2) (h : nV t e p = .inl (B, q)) : nV t2 e2 p = .inl (B, q) := by
  unfold nV at h ⊢
  exact bR_mono h (fun _ _ => nU_mono ha) fun _ _ _ h => h
theorem rX_mono {v : Int32} {p q : Nat} {u : Unit} (ha : agr t t2 e e2) (h : rX v t e p = .inl (u, q)) : rX v t2 e2 p = .inl (u, q) := by
  have he := ha.1
  unfold rX at h ⊢
  by_cases hp : p < e ∧ bI (t p) = v
  · rw [if_pos hp] at h
    rw [if_pos (show p < e2 ∧ bI (t2 p) = v from ⟨by omega, by rw [ha.2 p hp.1]; exact hp.2⟩)]
    exact h
  · rw [if_neg hp] at h
    cases h
theorem sg_mono {W : Bool} (ha : agr t t2 e e2) : ∀ (f p : Nat) (acc v : Int64) (q : Nat), sg W t e f p acc = some (v, q) → sg W t2 e2 f p acc = some (v, q)
  | 0, _, _, _, _, h => by cases h
  | f + 1, p, acc, v, q, h => by
    have he := ha.1
    rw [sg] at h ⊢
    by_cases hp : p < e
    · rw [if_pos hp] at h
      rw [if_pos (show p < e2 by omega), ha.2 p hp]
      by_cases h1 : 128 ≤ (t p).toNat
      · rw [if_pos h1] at h ⊢
        exact sg_mono ha f _ _ _ _ h
      · rw [if_neg h1] at h ⊢
        exact h
    · rw [if_neg hp] at h
      cases h
theorem rG_mono {W : Bool} {p q : Nat} {v : Int64} (ha : agr t t2 e e2) (h : rG W t e p = .inl (v, q)) : rG W t2 e2 p = .inl (v, q) := by
  unfold rG at h ⊢
  cases hu : sg W t e (sMo W) p 0 with
  | none =>
    rw [hu] at h
    cases h
  | some x =>
    rw [hu] at h
    have hx : x = (v, q) := Sum.inl.inj h
    rw [sg_mono ha _ p 0 x.1 x.2 hu]
    rw [hx]
theorem nT_mono {p q B : Nat} (ha : agr t t2 e e2) (h : nT t e p = .inl (B, q)) : nT t2 e2 p = .inl (B, q) := by
  unfold nT at h ⊢
  exact bR_mono h (fun _ _ => nN_mono ha) fun _ _ _ h => h
theorem pFs_mono (ha : agr t t2 e e2) : ∀ (k p : Nat) (l : List Nat) (q : Nat), pFs t e k p = .inl (l, q) → pFs t2 e2 k p = .inl (l, q)
  | 0, _, _, _, h => h
  | k + 1, p, l, q, h => by
    rw [pFs] at h ⊢
    exact bR_mono h (fun _ _ => nU_mono ha) fun _ _ _ h => bR_mono h (fun _ _ => pFs_mono ha k _ _ _) fun _ _ _ h => h
theorem pOs_mono {p op q : Nat} {x : Od × Nat} (ha : agr t t2 e e2) (h : pOs t e p op q = .inl x) : pOs t2 e2 p op q = .inl x := by
  unfold pOs at h ⊢
  by_cases c1 : alz op = true
  · rw [if_pos c1] at h ⊢
    exact h
  rw [if_neg c1] at h ⊢
  by_cases c2 : rfz op = true
  · rw [if_pos c2] at h
    cases h
  rw [if_neg c2] at h ⊢
  by_cases c3 : op = 14
  · rw [if_pos c3] at h ⊢
    unfold pO14 at h ⊢
    exact bR_mono h (fun _ _ => nV_mono ha) fun _ _ _ h => bR_mono h (fun _ _ => pFs_mono ha _ _ _ _) fun _ _ _ h => h
  rw [if_neg c3] at h ⊢
  unfold pOn at h ⊢
  by_cases c4 : op = 12 ∨ op = 13
  · rw [if_pos c4] at h ⊢
    exact bR_mono h (fun _ _ => nU_mono ha) fun _ _ _ h => h
  rw [if_neg c4] at h ⊢
  by_cases c5 : op = 16 ∨ (32 ≤ op ∧ op ≤ 36)
  · rw [if_pos c5] at h ⊢
    exact bR_mono h (fun _ _ => nU_mono ha) fun _ _ _ h => h
  rw [if_neg c5] at h ⊢
  by_cases c6 : op = 17
  · rw [if_pos c6] at h ⊢
    unfold pO17 at h ⊢
    exact bR_mono h (fun _ _ => nU_mono ha) fun _ _ _ h => bR_mono h (fun _ _ => rX_mono ha) fun _ _ _ h => h
  rw [if_neg c6] at h ⊢
  by_cases c7 : op = 63 ∨ op = 64
  · rw [if_pos c7] at h ⊢
    exact bR_mono h (fun _ _ => rX_mono ha) fun _ _ _ h => h
  rw [if_neg c7] at h ⊢
  by_cases c8 : op = 65 ∨ op = 66
  · rw [if_pos c8] at h ⊢
    exact bR_mono h (fun _ _ => rG_mono ha) fun _ _ _ h => h
  rw [if_neg c8] at h ⊢
  by_cases c9 : 40 ≤ op ∧ op ≤ 62
  · rw [if_pos c9] at h ⊢
    unfold pO40 at h ⊢
    exact bR_mono h (fun _ _ => nU_mono ha) fun _ _ _ h => bR_mono h (fun _ _ => nU_mono ha) fun _ _ _ h => h
  · rw [if_neg c9] at h
    cases h
theorem pBt_mono {p q B : Nat} (ha : agr t t2 e e2) (h : pBt t e p = .inl (B, q)) : pBt t2 e2 p = .inl (B, q) := by
  have he := ha.1
  unfold pBt at h ⊢
  by_cases hp : p < e ∧ (t p).toNat = 64
  · rw [if_pos hp] at h
    rw [if_pos (show p < e2 ∧ (t2 p).toNat = 64 from ⟨by omega, by rw [ha.2 p hp.1]; exact hp.2⟩)]
    exact h
  · rw [if_neg hp] at h
    have hpe := (nT_l h).2.2.2.2
    rw [if_neg (show ¬ (p < e2 ∧ (t2 p).toNat = 64) from fun z => hp ⟨hpe, by rw [← ha.2 p hpe]; exact z.2⟩)]
    exact nT_mono ha h
theorem pI_mono {C : List In} {p : Nat} {x : In × Nat} (ha : agr t t2 e e2) (h : pI t e C p = .inl x) : pI t2 e2 C p = .inl x := by
  unfold pI at h ⊢
  refine bR_mono h (fun _ _ => nN_mono ha) fun op q1 _ h => ?_
  unfold pI2 at h ⊢
  by_cases c1 : op = 11
  · rw [if_pos c1] at h ⊢
    exact h
  rw [if_neg c1] at h ⊢
  by_cases c2 : op = 5
  · rw [if_pos c2] at h ⊢
    exact h
  rw [if_neg c2] at h ⊢
  by_cases c3 : 2 ≤ op ∧ op ≤ 4
  · rw [if_pos c3] at h ⊢
    by_cases c4 : 20 ≤ (sk C C.length).length
    · rw [if_pos c4] at h
      cases h
    rw [if_neg c4] at h ⊢
    exact bR_mono h (fun _ _ => pBt_mono ha) fun _ _ _ h => h
  rw [if_neg c3] at h ⊢
  exact bR_mono h (fun _ _ => pOs_mono ha) fun _ _ _ h => h
end MONO
