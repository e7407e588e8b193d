/-! THE SMALL MACHINE: our cells by number, and what an instruction does to them; every row of it is proved of the real machine. -/
abbrev fkS : Type := (Nat → Nat → Int32) × (Nat → Nat → Int64) × (Nat → Nat → Nat)
abbrev fkG : Type := va_G × (Nat → Nat) × (Nat → ClassId)
def sI (σ : fkS) (i j : Nat) (v : Int32) : fkS := (fun a => if a = i then (fun b => if b = j then v else σ.1 a b) else σ.1 a, σ.2.1, σ.2.2)
def sL (σ : fkS) (i j : Nat) (v : Int64) : fkS := (σ.1, fun a => if a = i then (fun b => if b = j then v else σ.2.1 a b) else σ.2.1 a, σ.2.2)
def sR (σ : fkS) (i j : Nat) (v : Nat) : fkS := (σ.1, σ.2.1, fun a => if a = i then (fun b => if b = j then v else σ.2.2 a b) else σ.2.2 a)
def sAI (σ : fkS) (i : Nat) (f : Nat → Int32) : fkS := (fun a => if a = i then f else σ.1 a, σ.2.1, σ.2.2)
def sAL (σ : fkS) (i : Nat) (f : Nat → Int64) : fkS := (σ.1, fun a => if a = i then f else σ.2.1 a, σ.2.2)
/-- a reference or null, as a number -/
def fk_nv (n : Nat) : Value := match n with
  | 0 => .null
  | r + 1 => .ref r
/-- the small machine's null stands for what a static of the JDK's holds (a reference or null: g.2.1 1001) -/
def fk_tr (g : fkG) (v : Value) : Value := match v with
  | .ref i => .ref (g.2.1 i)
  | .null => fk_nv (g.2.1 1001)
  | v => v
def fk_fv (a : Nat → Int32) (b : Nat → Int64) (c : Nat → Nat) (g : fkG) (i j t : Nat) : Value := match t with
  | 0 => .int (a j)
  | 1 => .int (a j)
  | 2 => .int (a j)
  | 3 => .long (b j)
  | 4 => .ref (g.2.1 (fk_cr i j))
  | _ => match c j with
    | 0 => .null
    | r + 1 => .ref (g.2.1 r)
def fk_fs (a : Nat → Int32) (b : Nat → Int64) (c : Nat → Nat) (g : fkG) (i : Nat) (ts : List Nat) : List Value := ts.mapIdx (fun j t => fk_fv a b c g i j t)
def fk_en (a : Nat → Int32) (b : Nat → Int64) (c : Nat → Nat) (g : fkG) (i : Nat) (sh : Nat × Nat) : va_E := match sh.1 with
  | 0 => .inl (g.2.2 0, sh.2, .inl a)
  | 1 => .inl (g.2.2 1, sh.2, .inr (.inl b))
  | 2 => .inl (g.2.2 2, sh.2, .inl a)
  | 3 => .inl (g.2.2 3, sh.2, .inl a)
  | k + 4 => .inr (k, fk_fs a b c g i (fk_tg.getD k []))
def fk_ws (σ : fkS) (g : fkG) : va_W := fk_sh.mapIdx (fun i sh => (g.2.1 i, fk_en (σ.1 i) (σ.2.1 i) (σ.2.2 i) g i sh))
def fk_tys (g : fkG) : List (ClassId × FieldType) := [(g.2.2 0, .int), (g.2.2 1, .long), (g.2.2 2, .byte), (g.2.2 3, .boolean)]
def fk_A (g : fkG) : Nat → Prop := fun q => ∃ i, i < fk_nC ∧ q = g.2.1 i
def fk_inj (g : fkG) : Prop := ∀ i j, i < fk_nC → j < fk_nC → g.2.1 i = g.2.1 j → i = j
def fk_hd (j : Nat) : Int32 := ([0, 97, 115, 109, 1, 0, 0, 0] : List Int32).getD j 0
/-! facts of the words -/
def fk_W : List Cond := lw_tbl.filter goodWord
theorem fk_inW {w : Cond} (h : w ∈ lw_tbl) (hg : goodWord w = true) : w ∈ fk_W := List.mem_filter.mpr ⟨h, hg⟩
theorem fk_goodIn {ws : List Cond} (h : ∀ w ∈ ws, w ∈ fk_W) : GoodIn fk_W ws := fun w hw => ⟨h w hw, good_of_word (List.mem_filter.mp (h w hw)).2⟩
theorem gw_code (y : MethodName) (b : ByteArray) (n : Nat) (r : Option FieldType) : goodWord (.code y b n r) = true := rfl
theorem gw_fl (a : String) (i : Nat) (b c d : String) : goodWord (.fieldLink a i b c d) = true := rfl
theorem gw_ml (a : String) (i : Nat) (y : MethodName) : goodWord (.methodLink a i y) = true := rfl
theorem gw_im (y : MethodName) : goodWord (.instanceMethod y) = true := rfl
theorem gw_st (y : MethodName) : goodWord (.static y) = true := rfl
theorem gw_nat (y : MethodName) : goodWord (.native y) = true := rfl
theorem gw_sel (C : String) (x y : MethodName) : goodWord (.selects C x y) = true := rfl
theorem gw_ini (C : String) : goodWord (.initialized C) = true := rfl
theorem gw_con (C : String) (i : Nat) (v : Int32) : goodWord (.constant C i v) = true := rfl
theorem gw_conl (C : String) (i : Nat) (v : Int64) : goodWord (.constantLong C i v) = true := rfl
theorem gw_lays (a b c d : String) : goodWord (.lays a b c d) = true := rfl
theorem gw_laysF (a b c d : String) : goodWord (.laysFinal a b c d) = true := rfl
theorem gw_ins (a : String) (i : Nat) : goodWord (.instantiable a i) = true := rfl
theorem gw_cl (a : String) (i : Nat) (c : String) : goodWord (.classLink a i c) = true := rfl
def fk_nw (w : Cond) : Bool := match w with
  | .fieldLinkNest _ _ _ _ _ _ => true
  | .methodLinkNest _ _ _ _ => true
  | _ => false
/-- the tables' words of nest mates -/
def fk_N (U : State) : Prop := ∀ w ∈ lw_tbl, fk_nw w = true → va_Nw w U
theorem fk_N.warm {s U : State} (hW : s.WarmedH U.vm) (h : fk_N s) : fk_N U := by
  intro w hw hn
  have h1 := h w hw hn
  cases w <;> first | exact va_Nw.warmF hW h1 | exact va_Nw.warmM hW h1 | cases hn
theorem fk_N.same {u U : State} (hv : u.vm = U.vm) (h : fk_N u) : fk_N U := by
  intro w hw hn
  have h1 := h w hw hn
  cases w <;> first | cases hn; done | exact va_Nw.same rfl hv h1
def fk_wm (j : Nat) : List Cond := fk_cw j :: fk_W
theorem fk_wm_in {j : Nat} (h : fk_cw j ∈ lw_tbl) : ∀ w ∈ fk_wm j, w ∈ fk_W := fun w hw => (List.mem_cons.mp hw).elim (fun e => e ▸ fk_inW h rfl) id
/-- what nobody writes -/

def fk_so (g : fkG) (i : Nat) (A : Nat → Prop) (U : State) (H : Heap) : Prop := va_O "java/lang/String" (g.2.1 (2000 + i)) A U H ∧ va_OF "java/lang/String" "coder" "B" (.int 0) (g.2.1 (2000 + i)) A U H ∧ va_OF "java/lang/String" "value" "[B" (.ref (g.2.1 (3000 + i))) (g.2.1 (2000 + i)) A U H ∧ va_T .byte (g.2.1 (3000 + i)) (fk_ln i) (fun j => .int ((fk_bt i).getD j 0)) A U H
def fk_sc (g : fkG) (A : Nat → Prop) (U : State) (H : Heap) : Prop := va_Z "java/lang/String" "COMPACT_STRINGS" "Z" (.int 1) A U H ∧ va_Z "jdk/internal/util/Preconditions" "SIOOBE_FORMATTER" "Ljava/util/function/BiFunction;" (fk_nv (g.2.1 1001)) A U H ∧ ∀ i, i < fk_nL → fk_so g i A U H
def fk_cst (g : fkG) (A : Nat → Prop) (U : State) (H : Heap) : Prop := va_Z "FoldForge$ModuleReader" "HEADER" "[I" (.ref (g.2.1 1000)) A U H ∧ va_T .int (g.2.1 1000) 8 (fun j => .int (fk_hd j)) A U H ∧ fk_sc g A U H
theorem fk_cst.moved {g : fkG} {A : Nat → Prop} {u U : State} {H : Heap} (hvm : u.vm.Alike U.vm) (h : fk_cst g A u H) : fk_cst g A U H := ⟨h.1.moved hvm, h.2.1.moved hvm, h.2.2.1.moved hvm, h.2.2.2.1.moved hvm, fun i hi => have z := h.2.2.2.2 i hi; ⟨z.1.moved hvm, z.2.1.moved hvm, z.2.2.1.moved hvm, z.2.2.2.moved hvm⟩⟩
theorem fk_cst.kept {g : fkG} {A : Nat → Prop} {U : State} {H H1 : Heap} (h : fk_cst g A U H) (hq : ∀ a : Nat, a < H.size → ¬ A a → H1[a]? = H[a]?) : fk_cst g A U H1 := ⟨h.1.kept hq, h.2.1.kept hq, h.2.2.1.kept hq, h.2.2.2.1.kept hq, fun i hi => have z := h.2.2.2.2 i hi; ⟨z.1.kept hq, z.2.1.kept hq, z.2.2.1.kept hq, z.2.2.2.kept hq⟩⟩
theorem fk_cst.narrow {g : fkG} {A B : Nat → Prop} {U : State} {H : Heap} (h : fk_cst g A U H) (hAB : ∀ q, B q → A q) : fk_cst g B U H := ⟨h.1.narrow hAB, h.2.1.narrow hAB, h.2.2.1.narrow hAB, h.2.2.2.1.narrow hAB, fun i hi => have z := h.2.2.2.2 i hi; ⟨z.1.narrow hAB, z.2.1.narrow hAB, z.2.2.1.narrow hAB, z.2.2.2.narrow hAB⟩⟩
/-- the String constants as the tables name them -/
def fk_R (g : fkG) (U : State) : Prop := ∀ i q, fk_lits[i]? = some q → vk_R q.1 q.2.1 q.2.2.1 (g.2.1 (2000 + i)) U
theorem fk_R.warm {g : fkG} {s U : State} (hW : s.WarmedH U.vm) (h : fk_R g s) : fk_R g U := fun i q hq => vk_R.warm hW (h i q hq)
theorem fk_R.same {g : fkG} {u U : State} (hv : u.vm = U.vm) (h : fk_R g u) : fk_R g U := fun i q hq => vk_R.same hv.symm (h i q hq)
def fk_N2 (g : fkG) (U : State) : Prop := fk_N U ∧ fk_R g U
theorem fk_N2.warm {g : fkG} {s U : State} (hW : s.WarmedH U.vm) (h : fk_N2 g s) : fk_N2 g U := ⟨h.1.warm hW, h.2.warm hW⟩
theorem fk_N2.same {g : fkG} {u U : State} (hv : u.vm = U.vm) (h : fk_N2 g u) : fk_N2 g U := ⟨h.1.same hv, h.2.same hv⟩
def fk_rm (d : Nat) : Room := { frames := d, cells := 0, slots := 0, locals := 40 * d }
def fk_In (g : fkG) (σ : fkS) : State → Prop := fun U => va_P g.1 fk_cls (fk_ws σ g) U.heap ∧ va_K g.1 fk_cls (fk_tys g) U ∧ fk_cst g (fk_A g) U U.heap ∧ fk_N2 g U
def fk_Qc (g : fkG) (Q : Option Value → fkS → Prop) : Array Value → State → Outcome → State → Prop := fun _ st o t =>
  (∃ (r : Option Value) (σ' : fkS), o = .returned (r.map (fk_tr g)) ∧ Q r σ' ∧ va_P g.1 fk_cls (fk_ws σ' g) t.heap) ∧ va_F (fk_A g) st t
/-- method j, called with these, in this state: it comes back, and what comes back keeps Q; d calls in one another at most -/
def Cl (d j : Nat) (as : List Value) (σ : fkS) (Q : Option Value → fkS → Prop) : Prop :=
  ∀ (g : fkG) (l : Launch), fk_inj g → Met l (fk_M j).1 (fk_wm j) (fk_rm d) (va_Pc (as.map (fk_tr g)) (fk_In g σ)) (fk_Qc g Q) 0 0 (fk_A g)
abbrev fk_Cx (g : fkG) (k : Nat) (p : Program) (s : State) (m : MethodId) (args : Array Value) (meth : Method) (c : Code) : Prop :=
  p.tables.exec = Jvm.exec ∧ c.code = (fk_M k).2.1 ∧ c.maxLocals = (fk_M k).2.2.1 ∧ meth.sig.returnType = (fk_M k).2.2.2 ∧ meth.locks = false ∧ s.vm.findClass (fk_M k).1.cls = some m.cls ∧ (∀ w ∈ fk_W, w.before args s = true) ∧ va_K g.1 fk_cls (fk_tys g) s ∧ fk_cst g (fk_A g) s s.heap ∧ fk_N2 g s ∧ fk_inj g
def fk_alF (g : fkG) : Nat → List (Option Value) → List (Nat × Value)
  | _, [] => []
  | i, none :: t => fk_alF g (i + 1) t
  | i, some v :: t => (i, fk_tr g v) :: fk_alF g (i + 1) t
def fk_al (g : fkG) (ls : List (Option Value)) : List (Nat × Value) := fk_alF g 0 ls
def Wq (k d pc : Nat) (ls : List (Option Value)) (st : List Value) (σ : fkS) (Q : Option Value → fkS → Prop) : Prop :=
  ∀ (g : fkG) (p : Program) (l : Launch) (e : Env) (s : State) (m : MethodId) (args : Array Value) (below : List Frame) (meth : Method) (c : Code) (H : Heap) (locs : List Loc) (lsM : Array Slot),
    fk_Cx g k p s m args meth c → va_P g.1 fk_cls (fk_ws σ g) H → va_S (fk_A g) s.heap H locs → lv_has lsM (fk_M k).2.2.1 (fk_al g ls) →
    W p l e (fk_rm d) s m args below meth c H locs 0 0 (MQ below (fk_Qc g Q) args s 0 0 (fk_A g)) (F0 m pc lsM (st.map (fk_tr g)))
/-! facts of the world -/
theorem fk_ws_get {σ : fkS} {g : fkG} {i : Nat} {sh : Nat × Nat} (h : fk_sh[i]? = some sh) : (fk_ws σ g)[i]? = some (g.2.1 i, fk_en (σ.1 i) (σ.2.1 i) (σ.2.2 i) g i sh) := by
  simp [fk_ws, List.getElem?_mapIdx, h]
theorem fk_nC_len : fk_sh.length = fk_nC := by decide +kernel
theorem fk_lt {i : Nat} {sh : Nat × Nat} (h : fk_sh[i]? = some sh) : i < fk_nC := by
  rw [← fk_nC_len]; exact (List.getElem?_eq_some_iff.mp h).1
theorem fk_ws_some {σ : fkS} {g : fkG} {k : Nat} {q : Nat × va_E} (h : (fk_ws σ g)[k]? = some q) : ∃ sh, fk_sh[k]? = some sh ∧ q = (g.2.1 k, fk_en (σ.1 k) (σ.2.1 k) (σ.2.2 k) g k sh) := by
  simp only [fk_ws, List.getElem?_mapIdx] at h
  cases hs : fk_sh[k]? with
  | none => rw [hs] at h; cases h
  | some sh => rw [hs] at h; exact ⟨sh, rfl, (Option.some.inj h).symm⟩
theorem fk_D {σ : fkS} {g : fkG} (hi : fk_inj g) : va_D (fk_A g) (fk_ws σ g) := by
  refine ⟨fun i j p q h1 h2 e => ?_, fun k q h => ?_⟩
  · obtain ⟨s1, a1, rfl⟩ := fk_ws_some h1
    obtain ⟨s2, a2, rfl⟩ := fk_ws_some h2
    exact hi i j (fk_lt a1) (fk_lt a2) e
  · obtain ⟨s1, a1, rfl⟩ := fk_ws_some h
    exact ⟨k, fk_lt a1, rfl⟩
theorem fk_ws_set {σ σ' : fkS} {g : fkG} {i : Nat} {sh : Nat × Nat} {x : va_E} (h : fk_sh[i]? = some sh) (hx : x = fk_en (σ'.1 i) (σ'.2.1 i) (σ'.2.2 i) g i sh) (ho : ∀ j, j ≠ i → σ'.1 j = σ.1 j ∧ σ'.2.1 j = σ.2.1 j ∧ σ'.2.2 j = σ.2.2 j) :
    (fk_ws σ g).set i (g.2.1 i, x) = fk_ws σ' g := by
  apply List.ext_getElem?
  intro j
  rw [List.getElem?_set]
  by_cases hj : i = j
  · subst hj
    have hl : i < (fk_ws σ g).length := (List.getElem?_eq_some_iff.mp (fk_ws_get h)).1
    rw [if_pos rfl, if_pos hl, fk_ws_get h, hx]
  · rw [if_neg hj]
    obtain ⟨e1, e2, e3⟩ := ho j (Ne.symm hj)
    simp only [fk_ws, List.getElem?_mapIdx, e1, e2, e3]
theorem sI_o {σ : fkS} {i j : Nat} {v : Int32} {a : Nat} (h : a ≠ i) : (sI σ i j v).1 a = σ.1 a := if_neg h
theorem sI_s {σ : fkS} {i j : Nat} {v : Int32} : (sI σ i j v).1 i = fun b => if b = j then v else σ.1 i b := if_pos rfl
theorem sL_o {σ : fkS} {i j : Nat} {v : Int64} {a : Nat} (h : a ≠ i) : (sL σ i j v).2.1 a = σ.2.1 a := if_neg h
theorem sL_s {σ : fkS} {i j : Nat} {v : Int64} : (sL σ i j v).2.1 i = fun b => if b = j then v else σ.2.1 i b := if_pos rfl
theorem sR_o {σ : fkS} {i j : Nat} {v : Nat} {a : Nat} (h : a ≠ i) : (sR σ i j v).2.2 a = σ.2.2 a := if_neg h
theorem sR_s {σ : fkS} {i j : Nat} {v : Nat} : (sR σ i j v).2.2 i = fun b => if b = j then v else σ.2.2 i b := if_pos rfl
theorem sAI_o {σ : fkS} {i : Nat} {f : Nat → Int32} {a : Nat} (h : a ≠ i) : (sAI σ i f).1 a = σ.1 a := if_neg h
theorem sAI_s {σ : fkS} {i : Nat} {f : Nat → Int32} : (sAI σ i f).1 i = f := if_pos rfl
theorem sAL_o {σ : fkS} {i : Nat} {f : Nat → Int64} {a : Nat} (h : a ≠ i) : (sAL σ i f).2.1 a = σ.2.1 a := if_neg h
theorem sAL_s {σ : fkS} {i : Nat} {f : Nat → Int64} : (sAL σ i f).2.1 i = f := if_pos rfl
theorem fk_setI {σ : fkS} {g : fkG} {i j : Nat} {v : Int32} {sh : Nat × Nat} {x : va_E} (h : fk_sh[i]? = some sh) (hx : x = fk_en (fun b => if b = j then v else σ.1 i b) (σ.2.1 i) (σ.2.2 i) g i sh) : (fk_ws σ g).set i (g.2.1 i, x) = fk_ws (sI σ i j v) g :=
  fk_ws_set h (by rw [hx, sI_s]; rfl) (fun _ hj => ⟨sI_o hj, rfl, rfl⟩)
theorem fk_setL {σ : fkS} {g : fkG} {i j : Nat} {v : Int64} {sh : Nat × Nat} {x : va_E} (h : fk_sh[i]? = some sh) (hx : x = fk_en (σ.1 i) (fun b => if b = j then v else σ.2.1 i b) (σ.2.2 i) g i sh) : (fk_ws σ g).set i (g.2.1 i, x) = fk_ws (sL σ i j v) g :=
  fk_ws_set h (by rw [hx, sL_s]; rfl) (fun _ hj => ⟨rfl, sL_o hj, rfl⟩)
theorem fk_setR {σ : fkS} {g : fkG} {i j : Nat} {v : Nat} {sh : Nat × Nat} {x : va_E} (h : fk_sh[i]? = some sh) (hx : x = fk_en (σ.1 i) (σ.2.1 i) (fun b => if b = j then v else σ.2.2 i b) g i sh) : (fk_ws σ g).set i (g.2.1 i, x) = fk_ws (sR σ i j v) g :=
  fk_ws_set h (by rw [hx, sR_s]; rfl) (fun _ hj => ⟨rfl, rfl, sR_o hj⟩)
theorem fk_setAI {σ : fkS} {g : fkG} {i : Nat} {f : Nat → Int32} {sh : Nat × Nat} {x : va_E} (h : fk_sh[i]? = some sh) (hx : x = fk_en f (σ.2.1 i) (σ.2.2 i) g i sh) : (fk_ws σ g).set i (g.2.1 i, x) = fk_ws (sAI σ i f) g :=
  fk_ws_set h (by rw [hx, sAI_s]; rfl) (fun _ hj => ⟨sAI_o hj, rfl, rfl⟩)
theorem fk_setAL {σ : fkS} {g : fkG} {i : Nat} {f : Nat → Int64} {sh : Nat × Nat} {x : va_E} (h : fk_sh[i]? = some sh) (hx : x = fk_en (σ.1 i) f (σ.2.2 i) g i sh) : (fk_ws σ g).set i (g.2.1 i, x) = fk_ws (sAL σ i f) g :=
  fk_ws_set h (by rw [hx, sAL_s]; rfl) (fun _ hj => ⟨rfl, sAL_o hj, rfl⟩)
/-! locals -/
theorem fk_alF_mem {g : fkG} : ∀ (ls : List (Option Value)) (n i : Nat) (w : Value), (i, w) ∈ fk_alF g n ls ↔ ∃ (j : Nat) (v : Value), i = n + j ∧ ls[j]? = some (some v) ∧ w = fk_tr g v
  | [], n, i, w => by simp [fk_alF]
  | none :: t, n, i, w => by
    rw [fk_alF, fk_alF_mem t (n + 1) i w]
    constructor
    · rintro ⟨j, v, h1, h2, h3⟩
      exact ⟨j + 1, v, by omega, by simpa using h2, h3⟩
    · rintro ⟨j, v, h1, h2, h3⟩
      cases j with
      | zero => simp at h2
      | succ j => exact ⟨j, v, by omega, by simpa using h2, h3⟩
  | some u :: t, n, i, w => by
    rw [fk_alF, List.mem_cons, fk_alF_mem t (n + 1) i w]
    constructor
    · rintro (h | ⟨j, v, h1, h2, h3⟩)
      · cases h
        exact ⟨0, u, by omega, by simp, rfl⟩
      · exact ⟨j + 1, v, by omega, by simpa using h2, h3⟩
    · rintro ⟨j, v, h1, h2, h3⟩
      cases j with
      | zero =>
        simp at h2
        left
        rw [h1, h3, h2]
        rfl
      | succ j => exact Or.inr ⟨j, v, by omega, by simpa using h2, h3⟩
theorem fk_al_mem {g : fkG} {ls : List (Option Value)} {i : Nat} {w : Value} : (i, w) ∈ fk_al g ls ↔ ∃ v, ls[i]? = some (some v) ∧ w = fk_tr g v := by
  unfold fk_al
  rw [fk_alF_mem]
  constructor
  · rintro ⟨j, v, h1, h2, h3⟩
    have : i = j := by omega
    subst this
    exact ⟨v, h2, h3⟩
  · rintro ⟨v, h2, h3⟩
    exact ⟨i, v, by omega, h2, h3⟩
theorem lv_has.mono {ls : Array Slot} {n : Nat} {l l' : List (Nat × Value)} (h : lv_has ls n l) (hl : ∀ q ∈ l', q ∈ l) : lv_has ls n l' := ⟨h.1, h.2.1, fun q hq => h.2.2 q (hl q hq)⟩
theorem fk_ldv {g : fkG} {lsM : Array Slot} {n : Nat} {ls : List (Option Value)} (h : lv_has lsM n (fk_al g ls)) {i : Nat} {v : Value} (hv : ls[i]? = some (some v)) : lsM[i]? = some (.val (fk_tr g v)) := h.2.2 (i, fk_tr g v) (fk_al_mem.mpr ⟨v, hv, rfl⟩)
def fk_kl (ls : List (Option Value)) (i : Nat) : List (Option Value) := match i with
  | 0 => ls
  | j + 1 => match ls[j]? with
    | some (some w) => cond (Nat.beq (Value.category w) 2) (ls.set j none) ls
    | some none => ls
    | none => ls
def fk_st1 (ls : List (Option Value)) (i : Nat) (v : Value) : List (Option Value) := (fk_kl ls i).set i (some v)
def fk_st2 (ls : List (Option Value)) (i : Nat) (v : Value) : List (Option Value) := ((fk_kl ls i).set (i + 1) none).set i (some v)
theorem fk_nv_cat (n : Nat) : (fk_nv n).category = 1 := by cases n <;> rfl
theorem fk_tr_cat (g : fkG) (v : Value) : (fk_tr g v).category = v.category := by
  cases v
  case null => exact fk_nv_cat _
  all_goals rfl
theorem fk_kl_get {ls : List (Option Value)} {i j : Nat} {v : Value} (h : (fk_kl ls i)[j]? = some (some v)) : ls[j]? = some (some v) ∧ ¬ (j + 1 = i ∧ v.category = 2) := by
  cases i with
  | zero => exact ⟨h, fun z => by omega⟩
  | succ i =>
    unfold fk_kl at h
    simp only at h
    split at h
    next w hw =>
      cases hc : Nat.beq (Value.category w) 2 with
      | true =>
        rw [hc] at h
        simp only [cond_true, List.getElem?_set] at h
        by_cases hij : i = j
        · subst hij
          rw [if_pos rfl] at h
          split at h <;> simp at h
        · rw [if_neg hij] at h
          exact ⟨h, fun z => by omega⟩
      | false =>
        rw [hc] at h
        simp only [cond_false] at h
        refine ⟨h, fun z => ?_⟩
        have e : j = i := by omega
        subst e
        rw [hw] at h
        cases h
        have := Nat.ne_of_beq_eq_false hc
        exact this z.2
    next hw =>
      refine ⟨h, fun z => ?_⟩
      have e : j = i := by omega
      subst e
      rw [hw] at h
      cases h
    next hw =>
      refine ⟨h, fun z => ?_⟩
      have e : j = i := by omega
      subst e
      rw [hw] at h
      cases h
theorem fk_st1_has {g : fkG} {lsM : Array Slot} {n i : Nat} {ls : List (Option Value)} {v : Value} (h : lv_has lsM n ((i, fk_tr g v) :: (fk_al g ls).filter (fun q => !(q.1 == i) && !(q.1 + 1 == i && q.2.category == 2)))) : lv_has lsM n (fk_al g (fk_st1 ls i v)) := by
  refine h.mono fun q hq => ?_
  obtain ⟨j, w⟩ := q
  obtain ⟨u, h1, rfl⟩ := fk_al_mem.mp hq
  unfold fk_st1 at h1
  rw [List.getElem?_set] at h1
  by_cases hij : i = j
  · subst hij
    rw [if_pos rfl] at h1
    split at h1
    · cases h1
      exact List.mem_cons_self
    · cases h1
  · rw [if_neg hij] at h1
    obtain ⟨h2, h3⟩ := fk_kl_get h1
    refine List.mem_cons_of_mem _ (List.mem_filter.mpr ⟨fk_al_mem.mpr ⟨u, h2, rfl⟩, ?_⟩)
    have e1 : (j == i) = false := by simpa using Ne.symm hij
    rw [e1]
    simp only [fk_tr_cat, Bool.not_false, Bool.true_and, Bool.not_eq_true', Bool.and_eq_false_iff, beq_eq_false_iff_ne, ne_eq]
    by_cases z : j + 1 = i
    · exact Or.inr fun q => h3 ⟨z, q⟩
    · exact Or.inl z
theorem fk_st2_has {g : fkG} {lsM : Array Slot} {n i : Nat} {ls : List (Option Value)} {v : Value} (h : lv_has lsM n ((i, fk_tr g v) :: (fk_al g ls).filter (fun q => !(q.1 == i) && (!(q.1 == i + 1) && !(q.1 + 1 == i && q.2.category == 2))))) : lv_has lsM n (fk_al g (fk_st2 ls i v)) := by
  refine h.mono fun q hq => ?_
  obtain ⟨j, w⟩ := q
  obtain ⟨u, h1, rfl⟩ := fk_al_mem.mp hq
  unfold fk_st2 at h1
  rw [List.getElem?_set] at h1
  by_cases hij : i = j
  · subst hij
    rw [if_pos rfl] at h1
    split at h1
    · cases h1
      exact List.mem_cons_self
    · cases h1
  · rw [if_neg hij, List.getElem?_set] at h1
    by_cases hij2 : i + 1 = j
    · rw [if_pos hij2] at h1
      split at h1 <;> simp at h1
    · rw [if_neg hij2] at h1
      obtain ⟨h2, h3⟩ := fk_kl_get h1
      refine List.mem_cons_of_mem _ (List.mem_filter.mpr ⟨fk_al_mem.mpr ⟨u, h2, rfl⟩, ?_⟩)
      have e1 : (j == i) = false := by simpa using Ne.symm hij
      have e2 : (j == i + 1) = false := by simpa using Ne.symm hij2
      rw [e1, e2]
      simp only [fk_tr_cat, Bool.not_false, Bool.true_and, Bool.not_eq_true', Bool.and_eq_false_iff, beq_eq_false_iff_ne, ne_eq]
      by_cases z : j + 1 = i
      · exact Or.inr fun q => h3 ⟨z, q⟩
      · exact Or.inl z
/-- fewer locals are known -/
theorem Wq.less {k d pc : Nat} {ls ls' : List (Option Value)} {st : List Value} {σ : fkS} {Q : Option Value → fkS → Prop} (hl : ∀ (i : Nat) (v : Value), ls'[i]? = some (some v) → ls[i]? = some (some v)) (h : Wq k d pc ls' st σ Q) : Wq k d pc ls st σ Q := by
  intro g p l e s m args below meth c H locs lsM C hP hS hv
  refine h g p l e s m args below meth c H locs lsM C hP hS (hv.mono fun q hq => ?_)
  obtain ⟨j, w⟩ := q
  obtain ⟨u, h1, rfl⟩ := fk_al_mem.mp hq
  exact fk_al_mem.mpr ⟨u, hl j u h1, rfl⟩
