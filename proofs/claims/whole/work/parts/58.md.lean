/-! A MODULE AS IT IS READ: its parts; the class's rows of all of them -/
def DU (l : List Nat) (σ : fkS) : Prop := σ.1 24 3 = nI l.length ∧ ∀ (k x : Nat), l[k]? = some x → σ.1 27 k = nI x
def sDU (c j : Nat) : Bool := f46 c j || (Nat.beq c 24 && Nat.beq j 3) || Nat.beq c 27
theorem Fr.f46U {σ σ' : fkS} (h : Fr f46 σ σ') : Fr sDU σ σ' := h.mono fun c j h => by unfold sDU; rw [h]; rfl
def DA (l : List Li) (σ : fkS) : Prop := σ.1 24 5 = nI l.length ∧ ∀ x : Li, l.getLast? = some x → DL28 x σ
def sDA (c j : Nat) : Bool := f46 c j || (Nat.beq c 24 && Nat.beq j 5) || Nat.beq c 28
theorem Fr.f46A {σ σ' : fkS} (h : Fr f46 σ σ') : Fr sDA σ σ' := h.mono fun c j h => by unfold sDA; rw [h]; rfl
def DM (l : List Li) (σ : fkS) : Prop := σ.1 24 7 = nI l.length ∧ ∀ x : Li, l.getLast? = some x → DL29 x σ
def sDM (c j : Nat) : Bool := f46 c j || (Nat.beq c 24 && Nat.beq j 7) || Nat.beq c 29
theorem Fr.f46M {σ σ' : fkS} (h : Fr f46 σ σ') : Fr sDM σ σ' := h.mono fun c j h => by unfold sDM; rw [h]; rfl
section MDFR
variable {S : Nat → Nat → Bool} {σ σ' : fkS}
theorem DT.fr {l : List Ty} (h : DT l σ) (f : Fr S σ σ') (h1 : S 24 1 = false) (h2 : ∀ k, S 26 k = false) : DT l σ' := ⟨(f _ _ h1).1.trans h.1, fun k x hx => by
  obtain ⟨a1, a2, a3⟩ := h.2 k x hx
  exact ⟨(f _ _ (h2 _)).1.trans a1, (f _ _ (h2 _)).1.trans a2, (f _ _ (h2 _)).1.trans a3⟩⟩
theorem DU.fr {l : List Nat} (h : DU l σ) (f : Fr S σ σ') (h1 : S 24 3 = false) (h2 : ∀ k, S 27 k = false) : DU l σ' := ⟨(f _ _ h1).1.trans h.1, fun k x hx => (f _ _ (h2 _)).1.trans (h.2 k x hx)⟩
theorem DA.fr {l : List Li} (h : DA l σ) (f : Fr S σ σ') (h1 : S 24 5 = false) (h2 : ∀ k, S 28 k = false) : DA l σ' := ⟨(f _ _ h1).1.trans h.1, fun x hx => ⟨(f _ _ (h2 _)).2.1.trans (h.2 x hx).1, (f _ _ (h2 _)).2.1.trans (h.2 x hx).2⟩⟩
theorem DM.fr {l : List Li} (h : DM l σ) (f : Fr S σ σ') (h1 : S 24 7 = false) (h2 : ∀ k, S 29 k = false) : DM l σ' := ⟨(f _ _ h1).1.trans h.1, fun x hx => ⟨(f _ _ (h2 _)).2.1.trans (h.2 x hx).1, (f _ _ (h2 _)).2.1.trans (h.2 x hx).2⟩⟩
theorem DG.fr {l : List Gl} (h : DG l σ) (f : Fr S σ σ') (h1 : S 24 9 = false) (h2 : ∀ k, S 30 k = false) (h3 : ∀ k, S 31 k = false) : DG l σ' := ⟨(f _ _ h1).1.trans h.1, fun k x hx => by
  obtain ⟨a1, a2, a3, a4⟩ := h.2 k x hx
  exact ⟨(f _ _ (h2 _)).1.trans a1, (f _ _ (h2 _)).1.trans a2, (f _ _ (h2 _)).1.trans a3, (f _ _ (h3 _)).2.1.trans a4⟩⟩
theorem DE.fr {l : List Ex} (h : DE l σ) (f : Fr S σ σ') (h1 : S 24 12 = false) (h2 : ∀ k, S 32 k = false) : DE l σ' := ⟨(f _ _ h1).1.trans h.1, h.2.fr f h2⟩
theorem DL.fr {l : List El} (h : DL l σ) (f : Fr S σ σ') (h1 : S 24 14 = false) (h17 : S 24 17 = false) (h2 : ∀ k, S 33 k = false) (h3 : ∀ k, S 34 k = false) (h4 : ∀ k, S 35 k = false) : DL l σ' := ⟨(f _ _ h1).1.trans h.1, fun k x hx => by
  obtain ⟨a1, a2, a3, a4⟩ := h.2.1 k x hx
  exact ⟨(f _ _ (h2 _)).1.trans a1, (f _ _ (h2 _)).1.trans a2, (f _ _ (h2 _)).1.trans a3, (f _ _ (h3 _)).2.1.trans a4⟩, (f _ _ h17).1.trans h.2.2.1, fun k x hx => (f _ _ (h4 _)).1.trans (h.2.2.2 k x hx)⟩
theorem sCX.fr {x : List Fi × List In} (h : sCX x σ) (f : Fr S σ σ') (h0 : S 36 0 = false) (h5 : S 36 5 = false) (h9 : S 36 9 = false) (h37 : ∀ k, S 37 k = false) (h38 : ∀ k, S 38 k = false) (h39 : ∀ k, S 39 k = false) (h40 : ∀ k, S 40 k = false) (h41 : ∀ k, S 41 k = false) (h42 : ∀ k, S 42 k = false) (h43 : ∀ k, S 43 k = false) (h44 : ∀ k, S 44 k = false) : sCX x σ' := by
  obtain ⟨⟨a1, a2⟩, a3, a4, a5, a6⟩ := h
  exact ⟨⟨(f _ _ h0).1.trans a1, a2.keep a3 (fun j _ => (f _ _ (h37 _)).1) (fun j _ => (f _ _ (h38 _)).1) (fun j _ => (f _ _ (h39 _)).1) (fun j _ => (f _ _ (h40 _)).1)⟩, a3, a4.fr f ⟨h5, h9, h41, h42, h43, h44⟩, a5, a6⟩
end MDFR

abbrev Md : Type := List Ty × List Nat × List Li × List Li × List Gl × List Ex × List El × (List Fi × List In)
def mdT (m : Md) : List Ty := m.1
def mdU (m : Md) : List Nat := m.2.1
def mdA (m : Md) : List Li := m.2.2.1
def mdM (m : Md) : List Li := m.2.2.2.1
def mdG (m : Md) : List Gl := m.2.2.2.2.1
def mdE (m : Md) : List Ex := m.2.2.2.2.2.1
def mdL (m : Md) : List El := m.2.2.2.2.2.2.1
def mdC (m : Md) : List Fi × List In := m.2.2.2.2.2.2.2
def setT (m : Md) (x : List Ty) : Md := (x, mdU m, mdA m, mdM m, mdG m, mdE m, mdL m, mdC m)
def setU (m : Md) (x : List Nat) : Md := (mdT m, x, mdA m, mdM m, mdG m, mdE m, mdL m, mdC m)
def setA (m : Md) (x : List Li) : Md := (mdT m, mdU m, x, mdM m, mdG m, mdE m, mdL m, mdC m)
def setM (m : Md) (x : List Li) : Md := (mdT m, mdU m, mdA m, x, mdG m, mdE m, mdL m, mdC m)
def setG (m : Md) (x : List Gl) : Md := (mdT m, mdU m, mdA m, mdM m, x, mdE m, mdL m, mdC m)
def setE (m : Md) (x : List Ex) : Md := (mdT m, mdU m, mdA m, mdM m, mdG m, x, mdL m, mdC m)
def setL (m : Md) (x : List El) : Md := (mdT m, mdU m, mdA m, mdM m, mdG m, mdE m, x, mdC m)
def setC (m : Md) (x : List Fi × List In) : Md := (mdT m, mdU m, mdA m, mdM m, mdG m, mdE m, mdL m, x)
def DX (m : Md) (σ : fkS) : Prop := DT (mdT m) σ ∧ DU (mdU m) σ ∧ DA (mdA m) σ ∧ DM (mdM m) σ ∧ DG (mdG m) σ ∧ DE (mdE m) σ ∧ DL (mdL m) σ ∧ sCX (mdC m) σ
theorem DX.upT {m : Md} {x : List Ty} {σ σ' : fkS} (h : DX m σ) (f : Fr sDT σ σ') (hn : DT x σ') : DX (setT m x) σ' := by
  obtain ⟨hT, hU, hA, hM, hG, hE, hL, hC⟩ := h
  exact ⟨hn, hU.fr f rfl (fun _ => rfl), hA.fr f rfl (fun _ => rfl), hM.fr f rfl (fun _ => rfl), hG.fr f rfl (fun _ => rfl) (fun _ => rfl), hE.fr f rfl (fun _ => rfl), hL.fr f rfl rfl (fun _ => rfl) (fun _ => rfl) (fun _ => rfl), hC.fr f rfl rfl rfl (fun _ => rfl) (fun _ => rfl) (fun _ => rfl) (fun _ => rfl) (fun _ => rfl) (fun _ => rfl) (fun _ => rfl) (fun _ => rfl)⟩
theorem DX.upU {m : Md} {x : List Nat} {σ σ' : fkS} (h : DX m σ) (f : Fr sDU σ σ') (hn : DU x σ') : DX (setU m x) σ' := by
  obtain ⟨hT, hU, hA, hM, hG, hE, hL, hC⟩ := h
  exact ⟨hT.fr f rfl (fun _ => rfl), hn, hA.fr f rfl (fun _ => rfl), hM.fr f rfl (fun _ => rfl), hG.fr f rfl (fun _ => rfl) (fun _ => rfl), hE.fr f rfl (fun _ => rfl), hL.fr f rfl rfl (fun _ => rfl) (fun _ => rfl) (fun _ => rfl), hC.fr f rfl rfl rfl (fun _ => rfl) (fun _ => rfl) (fun _ => rfl) (fun _ => rfl) (fun _ => rfl) (fun _ => rfl) (fun _ => rfl) (fun _ => rfl)⟩
theorem DX.upA {m : Md} {x : List Li} {σ σ' : fkS} (h : DX m σ) (f : Fr sDA σ σ') (hn : DA x σ') : DX (setA m x) σ' := by
  obtain ⟨hT, hU, hA, hM, hG, hE, hL, hC⟩ := h
  exact ⟨hT.fr f rfl (fun _ => rfl), hU.fr f rfl (fun _ => rfl), hn, hM.fr f rfl (fun _ => rfl), hG.fr f rfl (fun _ => rfl) (fun _ => rfl), hE.fr f rfl (fun _ => rfl), hL.fr f rfl rfl (fun _ => rfl) (fun _ => rfl) (fun _ => rfl), hC.fr f rfl rfl rfl (fun _ => rfl) (fun _ => rfl) (fun _ => rfl) (fun _ => rfl) (fun _ => rfl) (fun _ => rfl) (fun _ => rfl) (fun _ => rfl)⟩
theorem DX.upM {m : Md} {x : List Li} {σ σ' : fkS} (h : DX m σ) (f : Fr sDM σ σ') (hn : DM x σ') : DX (setM m x) σ' := by
  obtain ⟨hT, hU, hA, hM, hG, hE, hL, hC⟩ := h
  exact ⟨hT.fr f rfl (fun _ => rfl), hU.fr f rfl (fun _ => rfl), hA.fr f rfl (fun _ => rfl), hn, hG.fr f rfl (fun _ => rfl) (fun _ => rfl), hE.fr f rfl (fun _ => rfl), hL.fr f rfl rfl (fun _ => rfl) (fun _ => rfl) (fun _ => rfl), hC.fr f rfl rfl rfl (fun _ => rfl) (fun _ => rfl) (fun _ => rfl) (fun _ => rfl) (fun _ => rfl) (fun _ => rfl) (fun _ => rfl) (fun _ => rfl)⟩
theorem DX.upG {m : Md} {x : List Gl} {σ σ' : fkS} (h : DX m σ) (f : Fr sDG σ σ') (hn : DG x σ') : DX (setG m x) σ' := by
  obtain ⟨hT, hU, hA, hM, hG, hE, hL, hC⟩ := h
  exact ⟨hT.fr f rfl (fun _ => rfl), hU.fr f rfl (fun _ => rfl), hA.fr f rfl (fun _ => rfl), hM.fr f rfl (fun _ => rfl), hn, hE.fr f rfl (fun _ => rfl), hL.fr f rfl rfl (fun _ => rfl) (fun _ => rfl) (fun _ => rfl), hC.fr f rfl rfl rfl (fun _ => rfl) (fun _ => rfl) (fun _ => rfl) (fun _ => rfl) (fun _ => rfl) (fun _ => rfl) (fun _ => rfl) (fun _ => rfl)⟩
theorem DX.upE {m : Md} {x : List Ex} {σ σ' : fkS} (h : DX m σ) (f : Fr sDE σ σ') (hn : DE x σ') : DX (setE m x) σ' := by
  obtain ⟨hT, hU, hA, hM, hG, hE, hL, hC⟩ := h
  exact ⟨hT.fr f rfl (fun _ => rfl), hU.fr f rfl (fun _ => rfl), hA.fr f rfl (fun _ => rfl), hM.fr f rfl (fun _ => rfl), hG.fr f rfl (fun _ => rfl) (fun _ => rfl), hn, hL.fr f rfl rfl (fun _ => rfl) (fun _ => rfl) (fun _ => rfl), hC.fr f rfl rfl rfl (fun _ => rfl) (fun _ => rfl) (fun _ => rfl) (fun _ => rfl) (fun _ => rfl) (fun _ => rfl) (fun _ => rfl) (fun _ => rfl)⟩
theorem DX.upL {m : Md} {x : List El} {σ σ' : fkS} (h : DX m σ) (f : Fr sDL σ σ') (hn : DL x σ') : DX (setL m x) σ' := by
  obtain ⟨hT, hU, hA, hM, hG, hE, hL, hC⟩ := h
  exact ⟨hT.fr f rfl (fun _ => rfl), hU.fr f rfl (fun _ => rfl), hA.fr f rfl (fun _ => rfl), hM.fr f rfl (fun _ => rfl), hG.fr f rfl (fun _ => rfl) (fun _ => rfl), hE.fr f rfl (fun _ => rfl), hn, hC.fr f rfl rfl rfl (fun _ => rfl) (fun _ => rfl) (fun _ => rfl) (fun _ => rfl) (fun _ => rfl) (fun _ => rfl) (fun _ => rfl) (fun _ => rfl)⟩
theorem DX.upC {m : Md} {x : List Fi × List In} {σ σ' : fkS} (h : DX m σ) (f : Fr sCS σ σ') (hn : sCX x σ') : DX (setC m x) σ' := by
  obtain ⟨hT, hU, hA, hM, hG, hE, hL, hC⟩ := h
  exact ⟨hT.fr f rfl (fun _ => rfl), hU.fr f rfl (fun _ => rfl), hA.fr f rfl (fun _ => rfl), hM.fr f rfl (fun _ => rfl), hG.fr f rfl (fun _ => rfl) (fun _ => rfl), hE.fr f rfl (fun _ => rfl), hL.fr f rfl rfl (fun _ => rfl) (fun _ => rfl) (fun _ => rfl), hn⟩
def sRd (c j : Nat) : Bool := f46 c j || (Nat.beq c 46 && Nat.beq j 2) || (Nat.beq c 45 && Nat.beq j 2)
theorem DX.fr {m : Md} {σ σ' : fkS} (h : DX m σ) (f : Fr sRd σ σ') : DX m σ' := by
  obtain ⟨hT, hU, hA, hM, hG, hE, hL, hC⟩ := h
  exact ⟨hT.fr f rfl (fun _ => rfl), hU.fr f rfl (fun _ => rfl), hA.fr f rfl (fun _ => rfl), hM.fr f rfl (fun _ => rfl), hG.fr f rfl (fun _ => rfl) (fun _ => rfl), hE.fr f rfl (fun _ => rfl), hL.fr f rfl rfl (fun _ => rfl) (fun _ => rfl) (fun _ => rfl), hC.fr f rfl rfl rfl (fun _ => rfl) (fun _ => rfl) (fun _ => rfl) (fun _ => rfl) (fun _ => rfl) (fun _ => rfl) (fun _ => rfl) (fun _ => rfl)⟩
/-- all that the class's reading may change -/
def sRX (c j : Nat) : Bool := f46 c j || (Nat.beq c 46 && Nat.beq j 2) || Nat.beq c 24 || Nat.beq c 26 || Nat.beq c 27 || Nat.beq c 28 || Nat.beq c 29 || Nat.beq c 30 || Nat.beq c 31 || Nat.beq c 32 || Nat.beq c 33 || Nat.beq c 34 || Nat.beq c 35 || Nat.beq c 36 || Nat.beq c 37 || Nat.beq c 38 || Nat.beq c 39 || Nat.beq c 40 || Nat.beq c 41 || Nat.beq c 42 || Nat.beq c 43 || Nat.beq c 44 || Nat.beq c 48 || Nat.beq c 49
theorem Fr.rxT {σ σ' : fkS} (h : Fr sDT σ σ') : Fr sRX σ σ' := h.mono fun c j h => by
  unfold sDT at h
  unfold sRX
  simp only [Bool.or_eq_true, Bool.and_eq_true] at h ⊢
  grind
theorem Fr.rxU {σ σ' : fkS} (h : Fr sDU σ σ') : Fr sRX σ σ' := h.mono fun c j h => by
  unfold sDU at h
  unfold sRX
  simp only [Bool.or_eq_true, Bool.and_eq_true] at h ⊢
  grind
theorem Fr.rxA {σ σ' : fkS} (h : Fr sDA σ σ') : Fr sRX σ σ' := h.mono fun c j h => by
  unfold sDA at h
  unfold sRX
  simp only [Bool.or_eq_true, Bool.and_eq_true] at h ⊢
  grind
theorem Fr.rxM {σ σ' : fkS} (h : Fr sDM σ σ') : Fr sRX σ σ' := h.mono fun c j h => by
  unfold sDM at h
  unfold sRX
  simp only [Bool.or_eq_true, Bool.and_eq_true] at h ⊢
  grind
theorem Fr.rxG {σ σ' : fkS} (h : Fr sDG σ σ') : Fr sRX σ σ' := h.mono fun c j h => by
  unfold sDG at h
  unfold sRX
  simp only [Bool.or_eq_true, Bool.and_eq_true] at h ⊢
  grind
theorem Fr.rxE {σ σ' : fkS} (h : Fr sDE σ σ') : Fr sRX σ σ' := h.mono fun c j h => by
  unfold sDE at h
  unfold sRX
  simp only [Bool.or_eq_true, Bool.and_eq_true] at h ⊢
  grind
theorem Fr.rxL {σ σ' : fkS} (h : Fr sDL σ σ') : Fr sRX σ σ' := h.mono fun c j h => by
  unfold sDL at h
  unfold sRX
  simp only [Bool.or_eq_true, Bool.and_eq_true] at h ⊢
  grind
theorem Fr.rxC {σ σ' : fkS} (h : Fr sCS σ σ') : Fr sRX σ σ' := h.mono fun c j h => by
  unfold sCS at h
  unfold sRX
  simp only [Bool.or_eq_true, Bool.and_eq_true] at h ⊢
  grind
theorem Fr.rxF {σ σ' : fkS} (h : Fr f46 σ σ') : Fr sRX σ σ' := h.mono fun c j h => by
  unfold sRX
  rw [h]
  rfl
def sRY (c j : Nat) : Bool := sRX c j || (Nat.beq c 45 && Nat.beq j 2)
theorem Fr.ry {σ σ' : fkS} (h : Fr sRX σ σ') : Fr sRY σ σ' := h.mono fun c j h => by
  unfold sRY
  rw [h]
  rfl
theorem Fr.rdY {σ σ' : fkS} (h : Fr sRd σ σ') : Fr sRY σ σ' := h.mono fun c j h => by
  unfold sRd at h
  unfold sRY sRX
  simp only [Bool.or_eq_true, Bool.and_eq_true] at h ⊢
  grind
