/-! RUNNING, the reference: pictures -/
def sRi (c j : Nat) : Bool := (Nat.beq c 103 && (Nat.beq j 40 || Nat.beq j 62 || Nat.beq j 66 || Nat.beq j 68 || Nat.beq j 69 || Nat.beq j 70 || Nat.beq j 71 || Nat.beq j 74)) || Nat.beq c 146 || Nat.beq c 148 || (Nat.ble 150 c && Nat.ble c 153)
def sOm (c j : Nat) : Bool := Nat.beq c 150 || (Nat.beq c 103 && Nat.beq j 66)
theorem sRi_mid {c j : Nat} (h : 103 < c) (h2 : c < 146) : sRi c j = false := by
  cases hh : sRi c j
  · rfl
  · unfold sRi at hh
    simp only [Bool.or_eq_true, Bool.and_eq_true, Nat.beq_eq, Nat.ble_eq] at hh
    omega
theorem sOm_ri {c j : Nat} (h : sOm c j = true) : sRi c j = true := by
  unfold sOm at h
  unfold sRi
  simp only [Bool.or_eq_true, Bool.and_eq_true, Nat.beq_eq, Nat.ble_eq] at h ⊢
  omega
/-- what stays while a run goes on -/
def SM (t : Nat → UInt8) (n b N : Nat) (m : Md) (σ : fkS) : Prop := okK t n m ∧ b < 2 ∧ σ.1 103 37 = nI b ∧ σ.1 103 38 = nI b ∧ σ.1 103 41 = nI 4000 ∧ σ.1 103 42 = 0 ∧ MX t b m σ ∧ (∃ t2, agr t t2 n 4000 ∧ ∀ k, k < 4000 → σ.1 105 (4000 * b + k) = bI (t2 k)) ∧ (∀ k, k < 100 → σ.1 147 k = tbF (mdL m) k) ∧ σ.1 103 67 = nI N
section PICM
variable {t : Nat → UInt8} {n b N d f i g p q : Nat} {m : Md} {σ σ' : fkS} {v : Int64} {A B : List Int64} {S : Nat → Nat → Bool}
theorem SM.fr (h : SM t n b N m σ) (f : Fr sRi σ σ') : SM t n b N m σ' := by
  obtain ⟨h1, h2, h3, h4, h5, h6, h7, ⟨t2, h8, h9⟩, h10, h11⟩ := h
  exact ⟨h1, h2, (f _ _ rfl).1.trans h3, (f _ _ rfl).1.trans h4, (f _ _ rfl).1.trans h5, (f _ _ rfl).1.trans h6, h7.frB h1.1 f ⟨fun c k a b _ h => (by rw [sRi_mid (by omega) (by omega)] at h; cases h), fun c j hc _ => sRi_mid (by omega) (by omega), fun j _ => rfl, fun c j hc _ => sRi_mid (by omega) (by omega), fun c hc => sRi_mid (by omega) (by omega)⟩, ⟨t2, h8, fun k hk => (f _ _ rfl).1.trans (h9 k hk)⟩, fun k hk => (f _ _ rfl).1.trans (h10 k hk), (f _ _ rfl).1.trans h11⟩
theorem SM.fo (h : SM t n b N m σ) (f : Fr sOm σ σ') : SM t n b N m σ' := h.fr (f.mono fun _ _ => sOm_ri)
theorem SM.tx (h : SM t n b N m σ) {k : Nat} (hk : k < n) : σ.1 105 (4000 * b + k) = bI (t k) := by
  obtain ⟨h1, -, -, -, -, -, -, ⟨t2, h8, h9⟩, -⟩ := h
  have hn := h1.2.2.2.2.2.1
  rw [h9 k (by omega), h8.2 k hk]
theorem SM.at (h : SM t n b N m σ) (q : Nat) : SM t n b N m (okM σ q) := h.fr (Fr.rf.sI rfl)
/-- reading as a run goes on -/
theorem SM.rm (h : SM t n b N m σ) (h40 : σ.1 103 40 = nI p) (hp : p ≤ 4000) : ∃ t2, agr t t2 n 4000 ∧ RM t2 b 4000 4000 p σ := by
  obtain ⟨h1, h2, h3, h4, h5, h6, h7, ⟨t2, h8, h9⟩, -⟩ := h
  exact ⟨t2, h8, h2, h4, h9, Nat.le_refl _, Nat.le_refl _, h5, h40, hp⟩
theorem r_U {B : Nat} {P : Int64 → fkS → Prop} (h : SM t n b N m σ) (h40 : σ.1 103 40 = nI p) (hU : nU t n p = .inl (B, q)) (k : P (lN B) (okM σ q)) : Cj (d + 1) 246 [.ref 103] σ P := by
  have hn := h.1.2.2.2.2.2.1
  have hl := nU_l hU
  obtain ⟨t2, ha, hR⟩ := h.rm h40 (by omega)
  refine qJ hR h.2.2.2.2.2.1 (mU hR h.2.2.2.2.2.1) (fun a q1 r hR2 hv hR1 hf1 => ?_) fun w pl r σ1 hR2 _ _ _ => by rw [nU_mono ha hU] at hR2; cases hR2
  rw [nU_mono ha hU] at hR2
  cases hR2
  subst hv
  exact k
theorem r_V {B : Nat} {P : Int32 → fkS → Prop} (h : SM t n b N m σ) (h40 : σ.1 103 40 = nI p) (hp : p < n) (hU : nV t n p = .inl (B, q)) (k : P (nI B) (okM σ q)) : Ci (d + 2) 250 [.ref 103] σ P := by
  have hn := h.1.2.2.2.2.2.1
  obtain ⟨t2, ha, hR⟩ := h.rm h40 (by omega)
  refine qI hR h.2.2.2.2.2.1 (mV hR h.2.2.2.2.2.1) (fun a q1 r hR2 hv hR1 hf1 => ?_) fun w pl r σ1 hR2 _ _ _ => by rw [nV_mono ha hU] at hR2; cases hR2
  rw [nV_mono ha hU] at hR2
  cases hR2
  subst hv
  exact k
theorem r_G {W : Bool} {v : Int64} {P : Int64 → fkS → Prop} (h : SM t n b N m σ) (h40 : σ.1 103 40 = nI p) (hp : p ≤ n) (hU : rG W t n p = .inl (v, q)) (k : P v (okM σ q)) : Cj (d + 1) 257 [.ref 103, .int (sWd W)] σ P := by
  have hn := h.1.2.2.2.2.2.1
  obtain ⟨t2, ha, hR⟩ := h.rm h40 (by omega)
  refine qJ hR h.2.2.2.2.2.1 (mG hR h.2.2.2.2.2.1) (fun a q1 r hR2 hv hR1 hf1 => ?_) fun w pl r σ1 hR2 _ _ _ => by rw [rG_mono ha hU] at hR2; cases hR2
  rw [rG_mono ha hU] at hR2
  cases hR2
  subst hv
  exact k
/-- values, the top one first -/
def stm (σ : fkS) : List Int64 → Prop
  | [] => True
  | v :: r => σ.2.1 150 r.length = v ∧ stm σ r
def oM (σ : fkS) (A : List Int64) : Prop := σ.1 103 66 = nI A.length ∧ A.length ≤ 30000 ∧ stm σ A
theorem stm.eq : ∀ {A : List Int64}, stm σ A → (∀ k, k < A.length → σ'.2.1 150 k = σ.2.1 150 k) → stm σ' A
  | [], _, _ => trivial
  | _ :: r, h, e => ⟨(e _ (Nat.lt_succ_self _)).trans h.1, stm.eq h.2 fun k hk => e k (Nat.lt_succ_of_lt hk)⟩
theorem oM.fr (h : oM σ A) (f : Fr S σ σ') (h6 : S 103 66 = false) (h5 : ∀ k, S 150 k = false) : oM σ' A := ⟨(f _ _ h6).1.trans h.1, h.2.1, h.2.2.eq fun k _ => (f _ _ (h5 k)).2.1⟩
theorem stm.tl : ∀ {A : List Int64}, stm σ (A ++ B) → stm σ B
  | [], h => h
  | _ :: _, h => stm.tl h.2
theorem oM.cut (h : oM σ (A ++ B)) (h6 : σ'.1 103 66 = nI B.length) (h5 : ∀ k, k < B.length → σ'.2.1 150 k = σ.2.1 150 k) : oM σ' B := by
  have hl := h.2.1
  rw [List.length_append] at hl
  exact ⟨h6, by omega, h.2.2.tl.eq h5⟩
theorem m_pushes {Q : fkS → Prop} (h : oM σ A) (hl : A.length < 30000) (hQ : ∀ σ', Fr sOm σ σ' → oM σ' (v :: A) → Q σ') : Cv d 297 [.ref 103, .long v] σ Q := by
  obtain ⟨h1, h2, h3⟩ := h
  refine S_M_pushes ?_
  rw [h1, nI_clamp (by omega), nI_1]
  refine ⟨vp_in_nI (by omega) (by decide), hQ _ ((Fr.rf.sL rfl).sI rfl) ⟨sI_ss, hl, ?_, ?_⟩⟩
  · show (sL σ 150 A.length v).2.1 150 A.length = v
    exact sL_ss
  · exact h3.eq fun k hk => sL_so (by omega)
theorem m_pops {P : Int64 → fkS → Prop} (h : oM σ (v :: A)) (hQ : ∀ σ', Fr sOm σ σ' → oM σ' A → P v σ') : Cj d 302 [.ref 103] σ P := by
  obtain ⟨h1, h2, h3, h4⟩ := h
  have h1 : σ.1 103 66 = nI (A.length + 1) := h1
  have h2 : A.length + 1 ≤ 30000 := h2
  refine S_M_pops ?_
  rw [h1, nI_pred, nI_clamp (by omega), h3]
  exact ⟨vp_in_nI (by omega) (by decide), hQ _ (Fr.rf.sI rfl) ⟨sI_ss, by omega, h4.eq fun _ _ => rfl⟩⟩
theorem m_popInt {P : Int32 → fkS → Prop} (h : oM σ (v :: A)) (hQ : ∀ σ', Fr sOm σ σ' → oM σ' A → P v.toInt32 σ') : Ci (d + 1) 305 [.ref 103] σ P := S_M_popInt (m_pops h hQ)
/-- the top one changes -/
theorem oM.set {w : Int64} (h : oM σ (v :: A)) : Fr sOm σ (sL σ 150 A.length w) ∧ oM (sL σ 150 A.length w) (w :: A) := by
  obtain ⟨h1, h2, h3, h4⟩ := h
  exact ⟨Fr.rf.sL rfl, h1, h2, sL_ss, h4.eq fun k hk => sL_so (by omega)⟩
theorem oM.sp (h : oM σ (v :: A)) : σ.1 103 66 - (1 : Int32) = nI A.length ∧ A.length < 30000 ∧ σ.2.1 150 A.length = v := by
  obtain ⟨h1, h2, h3, h4⟩ := h
  have h2 : A.length + 1 ≤ 30000 := h2
  refine ⟨?_, by omega, h3⟩
  rw [h1]
  exact nI_pred _
/-! the rest -/
def envM (m : Md) (e : Env) (σ : fkS) : Prop := (∀ k, k < (mdG m).length → σ.2.1 146 k = eG e k) ∧ (∀ k, k < 131072 → σ.1 148 k = bI (eM e k)) ∧ σ.1 103 62 = nI (eP e)
theorem envM.fr {e : Env} (h : envM m e σ) (f : Fr S σ σ') (h7 : ∀ k, S 146 k = false) (h8 : ∀ k, S 148 k = false) (h4 : S 103 62 = false) : envM m e σ' := ⟨fun k hk => (f _ _ (h7 k)).2.1.trans (h.1 k hk), fun k hk => (f _ _ (h8 k)).1.trans (h.2.1 k hk), (f _ _ h4).1.trans h.2.2⟩
theorem envM.fo {e : Env} (h : envM m e σ) (f : Fr sOm σ σ') : envM m e σ' := h.fr f (fun _ => rfl) (fun _ => rfl) rfl
/-- blocks that stand open, in all CALLS -/
def nlb (t : Nat → UInt8) (m : Md) : List Fm → Nat
  | [] => 0
  | x :: fs => ((jB (jAt t m x.1 x.2.1)).length - 1) + nlb t m fs
def locM (σ : fkS) : List Fm → Prop
  | [] => True
  | x :: fs => (∀ (k : Nat) (v : Int64), x.2.2.1[k]? = some v → σ.2.1 151 (110 * fs.length + k) = v) ∧ locM σ fs
def labM (t : Nat → UInt8) (m : Md) (σ : fkS) : List Fm → Prop
  | [] => True
  | x :: fs => (∀ (j : Nat) (bk : Bk) (o : Nat), (jB (jAt t m x.1 x.2.1))[j + 1]? = some bk → bkO bk = some o → σ.1 152 (nlb t m fs + j) = nI (posOf (mdC m).2 o) ∧ σ.1 153 (nlb t m fs + j) = nI ((ol fs).length + bkF bk)) ∧ labM t m σ fs
def topM (t : Nat → UInt8) (m : Md) (σ : fkS) (fs : List Fm) : Prop := σ.1 103 70 = nI fs.length ∧ σ.1 103 74 = nI (nlb t m fs) ∧ ∀ x ys, fs = x :: ys → σ.1 103 40 = nI (posOf (mdC m).2 x.2.1)
def PM (t : Nat → UInt8) (m : Md) (s : St) (σ : fkS) : Prop := envM m (sE s) σ ∧ σ.1 103 68 = nI (sK s) ∧ σ.1 103 69 = nI (sT s) ∧ σ.1 103 71 = b2i (sS s) ∧ (sT s = 0 → sS s = false → oM σ (ol (sF s) ++ sR2 s) ∧ locM σ (sF s) ∧ labM t m σ (sF s) ∧ topM t m σ (sF s))
theorem locM.fr : ∀ {fs : List Fm}, locM σ fs → Fr S σ σ' → (∀ k, S 151 k = false) → locM σ' fs
  | [], _, _, _ => trivial
  | _ :: _, h, f, h1 => ⟨fun k v hk => (f _ _ (h1 _)).2.1.trans (h.1 k v hk), locM.fr h.2 f h1⟩
theorem labM.fr : ∀ {fs : List Fm}, labM t m σ fs → Fr S σ σ' → (∀ k, S 152 k = false) → (∀ k, S 153 k = false) → labM t m σ' fs
  | [], _, _, _, _ => trivial
  | _ :: _, h, f, h1, h2 => ⟨fun j bk o hj ho => ⟨(f _ _ (h1 _)).1.trans (h.1 j bk o hj ho).1, (f _ _ (h2 _)).1.trans (h.1 j bk o hj ho).2⟩, labM.fr h.2 f h1 h2⟩
theorem topM.fr {fs : List Fm} (h : topM t m σ fs) (f : Fr S σ σ') (h1 : S 103 70 = false) (h2 : S 103 74 = false) (h3 : S 103 40 = false) : topM t m σ' fs := ⟨(f _ _ h1).1.trans h.1, (f _ _ h2).1.trans h.2.1, fun x ys e => (f _ _ h3).1.trans (h.2.2 x ys e)⟩
end PICM
