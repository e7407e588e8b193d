/-! RUNNING, the class: pictures -/
def sRun (c j : Nat) : Bool := (Nat.beq c 56 && (Nat.beq j 4 || (Nat.ble 8 j && Nat.ble j 15))) || Nat.beq c 57 || Nat.beq c 58 || Nat.beq c 60 || Nat.beq c 61
def sOp (c j : Nat) : Bool := Nat.beq c 60 || (Nat.beq c 56 && Nat.beq j 8)
/-- what stays while a run goes on -/
def SX (t : Nat → UInt8) (n : Nat) (m : Md) (σ : fkS) : Prop := okK t n m ∧ DY t n m (rnS swM σ) ∧ rvdA t m (mdU m).length (rnS swM σ) ∧ σ.2.2 56 0 = 4 ∧ σ.2.2 56 1 = 16 ∧ σ.1 56 6 = nI (tbN m) ∧ ∀ k, k < 100 → σ.1 59 k = tbF (mdL m) k
theorem sRun_lo {c j : Nat} (h : c < 56) : sRun c j = false := by
  unfold sRun
  cases hh : ((Nat.beq c 56 && (Nat.beq j 4 || (Nat.ble 8 j && Nat.ble j 15))) || Nat.beq c 57 || Nat.beq c 58 || Nat.beq c 60 || Nat.beq c 61)
  · rfl
  · simp only [Bool.or_eq_true, Bool.and_eq_true, Nat.beq_eq, Nat.ble_eq] at hh
    omega
theorem sOp_run {c j : Nat} (h : sOp c j = true) : sRun c j = true := by
  unfold sOp at h
  unfold sRun
  simp only [Bool.or_eq_true, Bool.and_eq_true, Nat.beq_eq, Nat.ble_eq] at h ⊢
  omega
section PICX
variable {t : Nat → UInt8} {n d f i g : Nat} {m : Md} {σ σ' : fkS} {v : Int64} {A B : List Int64} {S : Nat → Nat → Bool}
theorem SX.fr (h : SX t n m σ) (f : Fr sRun σ σ') : SX t n m σ' := by
  obtain ⟨h1, h2, h3, h4, h5, h6, h7⟩ := h
  refine ⟨h1, h2.eq fun c j a1 a2 => ?_, h3.eq fun j => (f 23 j (sRun_lo (by decide))).1, (f _ _ rfl).2.2.trans h4, (f _ _ rfl).2.2.trans h5, (f _ _ rfl).1.trans h6, fun k hk => (f _ _ rfl).1.trans (h7 k hk)⟩
  show σ'.1 (swM c) j = σ.1 (swM c) j ∧ σ'.2.1 (swM c) j = σ.2.1 (swM c) j
  rw [swM_hi a1 (by omega)]
  obtain ⟨b1, b2, -⟩ := f (c - 21) j (sRun_lo (by omega))
  exact ⟨b1, b2⟩
theorem SX.fo (h : SX t n m σ) (f : Fr sOp σ σ') : SX t n m σ' := h.fr (f.mono fun _ _ => sOp_run)
theorem SX.ty (h : SX t n m σ) (hf : f < (mdU m).length) : σ.1 6 f = nI (fnTy m f) := (h.2.1.2.1.2 f _ (h.1.fn hf).1)
theorem SX.fi (h : SX t n m σ) (hf : f < (mdU m).length) : σ.1 16 f = nI (fiS (fiAt m f)) ∧ σ.1 17 f = nI (fiE (fiAt m f)) ∧ σ.1 18 f = nI (fiAt m f).1.length := by
  have hx := fiAt_get (okFn.fl (t := t) (n := n) ⟨h.1, hf⟩)
  obtain ⟨a1, a2, a3, -⟩ := h.2.1.2.2.2.2.2.2.2.1 f _ hx
  exact ⟨a1, a2, a3⟩
theorem SX.DC (h : SX t n m σ) : DCk (mdC m).2 (rnS swM σ) := h.2.1.2.2.2.2.2.2.2.2.1
theorem SX.row {I : In} (h : SX t n m σ) (hI : (mdC m).2[i]? = some I) : σ.1 20 i = nI (iOp I) ∧ σ.2.1 21 i = iFirst (mdC m).2 i I ∧ (¬ (2 ≤ iOp I ∧ iOp I ≤ 5) → σ.1 22 i = nI (iS I)) := (h.DC.2.1 i I hI).1
theorem SX.sec {x : Nat} (h : SX t n m σ) (hx : clo (mdC m).2 x) : σ.1 22 x = nI (nx (mdC m).2 x) := h.DC.sec hx
theorem SX.cnt (h : SX t n m σ) : σ.1 15 5 = nI (mdC m).2.length := h.2.1.2.2.2.2.2.2.2.2.2.1
/-- values, the top one first -/
def stk (σ : fkS) : List Int64 → Prop
  | [] => True
  | v :: r => σ.2.1 60 r.length = v ∧ stk σ r
def oX (σ : fkS) (A : List Int64) : Prop := σ.1 56 8 = nI A.length ∧ A.length ≤ 24000 ∧ stk σ A
theorem stk.eq : ∀ {A : List Int64}, stk σ A → (∀ k, k < A.length → σ'.2.1 60 k = σ.2.1 60 k) → stk σ' A
  | [], _, _ => trivial
  | _ :: r, h, e => ⟨(e _ (Nat.lt_succ_self _)).trans h.1, stk.eq h.2 fun k hk => e k (Nat.lt_succ_of_lt hk)⟩
theorem oX.fr (h : oX σ A) (f : Fr S σ σ') (h8 : S 56 8 = false) (h60 : ∀ k, S 60 k = false) : oX σ' A := ⟨(f _ _ h8).1.trans h.1, h.2.1, h.2.2.eq fun k _ => (f _ _ (h60 k)).2.1⟩
theorem stk.tl : ∀ {A : List Int64}, stk σ (A ++ B) → stk σ B
  | [], h => h
  | _ :: _, h => stk.tl h.2
theorem stk.at : ∀ {A : List Int64}, stk σ (A ++ v :: B) → σ.2.1 60 B.length = v
  | [], h => h.1
  | _ :: _, h => stk.at h.2
theorem stk.set {w : Int64} : ∀ {A : List Int64}, stk σ (A ++ v :: B) → σ'.2.1 60 B.length = w → (∀ k, k ≠ B.length → σ'.2.1 60 k = σ.2.1 60 k) → stk σ' (A ++ w :: B)
  | [], h, e1, e2 => ⟨e1, h.2.eq fun k hk => e2 k (by omega)⟩
  | a :: A, h, e1, e2 => ⟨by
      have e0 : (A ++ w :: B).length = (A ++ v :: B).length := by
        rw [List.length_append, List.length_append]
        rfl
      show σ'.2.1 60 (A ++ w :: B).length = a
      rw [e0]
      refine (e2 _ ?_).trans h.1
      rw [List.length_append, List.length_cons]
      omega, stk.set h.2 e1 e2⟩
theorem x_push {Q : fkS → Prop} (h : oX σ A) (hl : A.length < 24000) (hQ : ∀ σ', σ'.2.2 = σ.2.2 → Fr sOp σ σ' → oX σ' (v :: A) → Q σ') : Dv d 106 [.ref 56, .long v] σ Q := by
  obtain ⟨h1, h2, h3⟩ := h
  refine S_Machine_push (Q := Qv _) ?_
  rw [h1]
  refine pk_le 24000 A.length (fun z => by omega) fun _ => ⟨vp_in_nI hl (by decide), rfl, ?_⟩
  rw [nI_clamp (by omega)]
  refine hQ _ rfl ((Fr.rf.sL rfl).sI rfl) ⟨?_, hl, ?_, ?_⟩
  · rw [sI_ss, nI_1]
    rfl
  · show (sL σ 60 A.length v).2.1 60 A.length = v
    exact sL_ss
  · exact h3.eq fun k hk => sL_so (by omega)
theorem x_pop {Q : Int64 → fkS → Prop} (h : oX σ (v :: A)) (hQ : ∀ σ', σ'.2.2 = σ.2.2 → Fr sOp σ σ' → oX σ' A → Q v σ') : Dj d 111 [.ref 56] σ Q := by
  obtain ⟨h1, h2, h3, h4⟩ := h
  have h1 : σ.1 56 8 = nI (A.length + 1) := h1
  have h2 : A.length + 1 ≤ 24000 := h2
  refine S_Machine_pop (Q := Qj _) ?_
  rw [h1]
  refine pk_lt 0 (A.length + 1) (fun _ => ?_) fun z => by omega
  have e : nI (A.length + 1) - 1 = nI A.length := nI_pred _
  rw [e]
  refine ⟨vp_in_nI (by omega) (by decide), rfl, ?_⟩
  rw [nI_clamp (by omega), h3]
  exact hQ _ rfl (Fr.rf.sI rfl) ⟨sI_ss, by omega, h4.eq fun _ _ => rfl⟩
/-! the rest -/
def envX (m : Md) (e : Env) (σ : fkS) : Prop := (∀ k, k < (mdG m).length → σ.2.1 57 k = eG e k) ∧ (∀ k, k < 131072 → by8 (σ.2.1 58 (k / 8)) (k % 8) = eM e k) ∧ σ.1 56 4 = nI (eP e)
def backI : List Fm → Nat
  | [] => 0
  | x :: _ => x.2.1
def frX (σ : fkS) : List Fm → Prop
  | [] => True
  | x :: fs => σ.1 61 (3 * fs.length) = nI x.1 ∧ σ.1 61 (3 * fs.length + 1) = nI (fl fs).length ∧ σ.1 61 (3 * fs.length + 2) = nI (backI fs) ∧ frX σ fs
def topX (σ : fkS) : List Fm → Prop
  | [] => σ.1 56 10 = 0
  | x :: fs => σ.1 56 10 = nI (fs.length + 1) ∧ σ.1 56 11 = nI x.2.1 ∧ σ.1 56 12 = nI (fl fs).length ∧ σ.1 56 13 = nI ((fl fs).length + x.2.2.1.length)
def PX (m : Md) (s : St) (σ : fkS) : Prop := envX m (sE s) σ ∧ σ.1 56 14 = nI (sK s) ∧ σ.1 56 15 = nI (sT s) ∧ (sT s = 0 → oX σ (fl (sF s) ++ sR2 s) ∧ frX σ (sF s) ∧ topX σ (sF s))
theorem envX.fr {e : Env} (h : envX m e σ) (f : Fr S σ σ') (h7 : ∀ k, S 57 k = false) (h8 : ∀ k, S 58 k = false) (h4 : S 56 4 = false) : envX m e σ' := ⟨fun k hk => (f _ _ (h7 k)).2.1.trans (h.1 k hk), fun k hk => by
  rw [(f 58 (k / 8) (h8 _)).2.1]
  exact h.2.1 k hk, (f _ _ h4).1.trans h.2.2⟩
theorem envX.fo {e : Env} (h : envX m e σ) (f : Fr sOp σ σ') : envX m e σ' := h.fr f (fun _ => rfl) (fun _ => rfl) rfl
theorem frX.eq : ∀ {fs : List Fm}, frX σ fs → (∀ k, k < 3 * fs.length → σ'.1 61 k = σ.1 61 k) → frX σ' fs
  | [], _, _ => trivial
  | _ :: fs, h, e => by
    have e : ∀ k, k < 3 * (fs.length + 1) → σ'.1 61 k = σ.1 61 k := e
    exact ⟨(e _ (by omega)).trans h.1, (e _ (by omega)).trans h.2.1, (e _ (by omega)).trans h.2.2.1, frX.eq h.2.2.2 fun k hk => e k (by omega)⟩
theorem frX.fr {fs : List Fm} (h : frX σ fs) (f : Fr S σ σ') (h1 : ∀ k, S 61 k = false) : frX σ' fs := h.eq fun k _ => (f _ _ (h1 k)).1
theorem topX.fr {fs : List Fm} (h : topX σ fs) (f : Fr S σ σ') (h1 : S 56 10 = false) (h2 : S 56 11 = false) (h3 : S 56 12 = false) (h4 : S 56 13 = false) : topX σ' fs := by
  cases fs with
  | nil => exact (f _ _ h1).1.trans h
  | cons x fs => exact ⟨(f _ _ h1).1.trans h.1, (f _ _ h2).1.trans h.2.1, (f _ _ h3).1.trans h.2.2.1, (f _ _ h4).1.trans h.2.2.2⟩
/-- the values of a frame change, the rest stays -/
theorem PX.op {L L2 T T2 R : List Int64} {e : Env} {tk : Nat} {sp : Bool} {fs : List Fm} (h : PX m ((f, i, L, T) :: fs, R, e, tk, 0, sp) σ) (f0 : Fr sOp σ σ') (ho : oX σ' (T2 ++ (L2.reverse ++ (fl fs ++ R)))) (hL : L2.length = L.length) : PX m ((f, i, L2, T2) :: fs, R, e, tk, 0, sp) σ' := by
  obtain ⟨h1, h2, h3, h4⟩ := h
  obtain ⟨-, h5, h6⟩ := h4 rfl
  refine ⟨h1.fo f0, (f0 _ _ rfl).1.trans h2, (f0 _ _ rfl).1.trans h3, fun _ => ⟨?_, ?_, ?_⟩⟩
  · show oX σ' ((T2 ++ (L2.reverse ++ fl fs)) ++ R)
    rw [List.append_assoc, List.append_assoc]
    exact ho
  · have := h5.fr f0 fun _ => rfl
    exact this
  · have := h6.fr f0 rfl rfl rfl rfl
    refine ⟨this.1, this.2.1, this.2.2.1, ?_⟩
    show σ'.1 56 13 = nI ((fl fs).length + L2.length)
    rw [hL]
    exact this.2.2.2
theorem PX.ox {L T R : List Int64} {e : Env} {tk : Nat} {sp : Bool} {fs : List Fm} (h : PX m ((f, i, L, T) :: fs, R, e, tk, 0, sp) σ) : oX σ (T ++ (L.reverse ++ (fl fs ++ R))) := by
  have := (h.2.2.2 rfl).1
  have e : fl ((f, i, L, T) :: fs) ++ R = T ++ (L.reverse ++ (fl fs ++ R)) := by
    show (T ++ (L.reverse ++ fl fs)) ++ R = _
    rw [List.append_assoc, List.append_assoc]
  rw [← e]
  exact this
end PICX
