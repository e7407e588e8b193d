/-! CONSTRUCTORS: cells are made one behind another; what is made is told as data -/
abbrev kcE : Type := (Nat × Nat) ⊕ (Nat × List Value)
def kc_tr (h0 : Nat) (v : Value) : Value := match v with
  | .ref i => .ref (h0 + i)
  | v => v
def kc_ar (g : fkG) (t n : Nat) : va_E := match t with
  | 1 => .inl (g.2.2 1, n, .inr (.inl fun _ => 0))
  | t => .inl (g.2.2 t, n, .inl fun _ => 0)
def kc_se (g : fkG) (h0 : Nat) (e : kcE) : va_E := match e with
  | .inl (t, n) => kc_ar g t n
  | .inr (ci, fs) => .inr (ci, fs.map (kc_tr h0))
def kc_w (g : fkG) (h0 : Nat) (l : List kcE) : va_W := l.mapIdx (fun i e => (h0 + i, kc_se g h0 e))
def kc_sz (e : kcE) : Nat := match e with
  | .inl (_, n) => n
  | .inr (_, fs) => fs.length
def kc_sm (as : List kcE) : Nat := (as.map kc_sz).sum
def kc_df (ci : Nat) : List Value := (fk_tg.getD ci []).map (fun t => match t with
  | 3 => .long 0
  | 4 => .null
  | 5 => .null
  | _ => .int 0)
def kc_sv (n : Nat) (v : Value) : Value := match v with
  | .ref i => .ref (n + i)
  | v => v
def kc_sh (n : Nat) (e : kcE) : kcE := match e with
  | .inl x => .inl x
  | .inr (ci, fs) => .inr (ci, fs.map (kc_sv n))
theorem kc_tr_sv (h0 n : Nat) (v : Value) : kc_tr h0 (kc_sv n v) = kc_tr (h0 + n) v := by
  cases v <;> first | rfl | (show Value.ref (h0 + (n + _)) = Value.ref (h0 + n + _); rw [Nat.add_assoc])
theorem kc_se_sh (g : fkG) (h0 n : Nat) (e : kcE) : kc_se g h0 (kc_sh n e) = kc_se g (h0 + n) e := by
  rcases e with x | ⟨ci, fs⟩
  · rfl
  · show Sum.inr (ci, (fs.map (kc_sv n)).map (kc_tr h0)) = Sum.inr (ci, fs.map (kc_tr (h0 + n)))
    rw [List.map_map]
    congr 2
    apply List.map_congr_left
    intro v _
    exact kc_tr_sv h0 n v
theorem kc_w_get {g : fkG} {h0 : Nat} {l : List kcE} {k : Nat} {q : Nat × va_E} (h : (kc_w g h0 l)[k]? = some q) : ∃ e, l[k]? = some e ∧ q = (h0 + k, kc_se g h0 e) := by
  simp only [kc_w, List.getElem?_mapIdx] at h
  cases hs : l[k]? with
  | none => rw [hs] at h; cases h
  | some e => rw [hs] at h; exact ⟨e, rfl, (Option.some.inj h).symm⟩
theorem kc_w_app (g : fkG) (h0 : Nat) (l m : List kcE) : kc_w g h0 (l ++ m.map (kc_sh l.length)) = kc_w g h0 l ++ kc_w g (h0 + l.length) m := by
  unfold kc_w
  rw [List.mapIdx_append]
  congr 1
  apply List.ext_getElem?
  intro i
  simp only [List.getElem?_mapIdx, List.getElem?_map]
  cases m[i]? with
  | none => rfl
  | some e =>
    simp only [Option.map_some]
    rw [kc_se_sh, Nat.add_comm i l.length, Nat.add_assoc]
theorem kc_w_snoc (g : fkG) (h0 : Nat) (l : List kcE) (e : kcE) : kc_w g h0 (l ++ [e]) = kc_w g h0 l ++ [(h0 + l.length, kc_se g h0 e)] := by
  unfold kc_w
  rw [List.mapIdx_concat]
theorem kc_D (g : fkG) (h0 : Nat) (l : List kcE) : va_D (fun q => h0 ≤ q) (kc_w g h0 l) := by
  refine ⟨fun i j p q h1 h2 e => ?_, fun k q h => ?_⟩
  · obtain ⟨_, -, rfl⟩ := kc_w_get h1
    obtain ⟨_, -, rfl⟩ := kc_w_get h2
    exact Nat.add_left_cancel e
  · obtain ⟨_, -, rfl⟩ := kc_w_get h
    exact Nat.le_add_right _ _
def kc_rm (d C S : Nat) : Room := { frames := d, cells := C, slots := S, locals := 40 * d }
def kc_In (g : fkG) (h0 ci : Nat) : State → Prop := fun U => U.heap.size = h0 + 1 ∧ va_P g.1 fk_cls (kc_w g h0 [.inr (ci, kc_df ci)]) U.heap ∧ va_K g.1 fk_cls (fk_tys g) U ∧ fk_N U
def kc_Qc (g : fkG) (h0 : Nat) (lf : List kcE) : Array Value → State → Outcome → State → Prop := fun _ st o t =>
  o = .returned none ∧ t.heap.size = h0 + lf.length ∧ va_P g.1 fk_cls (kc_w g h0 lf) t.heap ∧ ∀ q, q < h0 → t.heap[q]? = st.heap[q]?
/-- a constructor's contract: called on a new object, the last cell of the heap, it makes these cells behind it -/
def Kt (d j ci : Nat) (fs : List Value) (as : List kcE) : Prop := ∀ (g : fkG) (l : Launch) (h0 : Nat),
  Met l (fk_M j).1 (fk_wm j) (kc_rm d as.length (kc_sm as)) (va_Pc [.ref h0] (kc_In g h0 ci)) (kc_Qc g h0 (.inr (ci, fs) :: as)) as.length (kc_sm as) (fun q => h0 ≤ q)
abbrev kc_Cx (g : fkG) (k : Nat) (p : Program) (s : State) (m : MethodId) (args : Array Value) (meth : Method) (c : Code) : Prop :=
  p.tables.exec = Jvm.exec ∧ c.code = (fk_M k).2.1 ∧ c.maxLocals = (fk_M k).2.2.1 ∧ meth.sig.returnType = (fk_M k).2.2.2 ∧ meth.locks = false ∧ s.vm.findClass (fk_M k).1.cls = some m.cls ∧ (∀ w ∈ fk_W, w.before args s = true) ∧ va_K g.1 fk_cls (fk_tys g) s ∧ fk_N s ∧ meth.name = "<init>"
def Wk (k d ci C S pc : Nat) (st fs : List Value) (as lf : List kcE) : Prop :=
  ∀ (g : fkG) (h0 : Nat) (p : Program) (l : Launch) (e : Env) (s : State) (m : MethodId) (args : Array Value) (below : List Frame) (meth : Method) (c : Code) (H : Heap) (locs : List Loc) (lsM : Array Slot),
    kc_Cx g k p s m args meth c → va_P g.1 fk_cls (kc_w g h0 (.inr (ci, fs) :: as)) H → H.size = h0 + (as.length + 1) → va_S (fun q => h0 ≤ q) s.heap H locs → s.heap.size = h0 + 1 → lv_has lsM (fk_M k).2.2.1 [(0, .ref h0)] →
    W p l e (kc_rm d C S) s m args below meth c H locs as.length (kc_sm as) (MQ below (kc_Qc g h0 lf) args s C S (fun q => h0 ≤ q)) (F0 m pc lsM (st.map (kc_tr h0)))
theorem kc_sm_snoc (as : List kcE) (e : kcE) : kc_sm (as ++ [e]) = kc_sm as + kc_sz e := by simp [kc_sm]
theorem kc_tag_df : (List.range 13).all (fun cj => ((fk_tg.getD cj []).mapIdx (fun j t => decide (defaultValue (fk_ty cj j) = (match t with
    | 3 => Value.long 0
    | 4 => .null
    | 5 => .null
    | _ => .int 0)))).all id) = true := by decide +kernel
theorem kc_born {cj j t h0 : Nat} (hc : cj < 13) (ht : (fk_tg.getD cj [])[j]? = some t) : defaultValue (fk_ty cj j) = vp_V ((kc_df cj).map (kc_tr h0)) j := by
  have h1 := List.all_eq_true.mp kc_tag_df cj (List.mem_range.mpr hc)
  have h3 := List.all_eq_true.mp h1 _ (List.mem_of_getElem? (i := j) (by rw [List.getElem?_mapIdx, ht]; rfl))
  have h4 := of_decide_eq_true h3
  rw [h4]
  unfold vp_V kc_df
  rw [List.getD_eq_getElem?_getD, List.getElem?_map, List.getElem?_map, ht]
  simp only [Option.map_some, Option.getD_some]
  split <;> rfl
section KR
variable {k d ci C S pc : Nat} {st fs : List Value} {as lf : List kcE}
theorem kr_aload {n : Fin 4} (hd : decode (fk_M k).2.1 pc = .ok (.aload_n n, 1)) (hn : (n : Nat) = 0) (h : Wk k d ci C S (pc + 1) (.ref 0 :: st) fs as lf) : Wk k d ci C S pc st fs as lf := by
  intro g h0 p l e s m args below meth c H locs lsM X hP hz hS hs hl
  exact lv_aload_n X.1 X.2.1 hd hn (lv_at hl 0 rfl) (h g h0 p l e s m args below meth c H locs lsM X hP hz hS hs hl)
theorem kr_iconst {n : Int} (hd : decode (fk_M k).2.1 pc = .ok (.iconst n, 1)) (h : Wk k d ci C S (pc + 1) (.int (Int32.ofInt n) :: st) fs as lf) : Wk k d ci C S pc st fs as lf := by
  intro g h0 p l e s m args below meth c H locs lsM X hP hz hS hs hl
  exact lv_iconst X.1 X.2.1 hd rfl (h g h0 p l e s m args below meth c H locs lsM X hP hz hS hs hl)
theorem kr_bipush {n : Int} (hd : decode (fk_M k).2.1 pc = .ok (.bipush n, 2)) (hv : (Int8.ofInt n).toInt32 = Int32.ofInt n) (h : Wk k d ci C S (pc + 2) (.int (Int32.ofInt n) :: st) fs as lf) : Wk k d ci C S pc st fs as lf := by
  intro g h0 p l e s m args below meth c H locs lsM X hP hz hS hs hl
  exact lv_bipush X.1 X.2.1 hd hv (h g h0 p l e s m args below meth c H locs lsM X hP hz hS hs hl)
theorem kr_sipush {n : Int} (hd : decode (fk_M k).2.1 pc = .ok (.sipush n, 3)) (hv : (Int16.ofInt n).toInt32 = Int32.ofInt n) (h : Wk k d ci C S (pc + 3) (.int (Int32.ofInt n) :: st) fs as lf) : Wk k d ci C S pc st fs as lf := by
  intro g h0 p l e s m args below meth c H locs lsM X hP hz hS hs hl
  exact lv_sipush X.1 X.2.1 hd hv (h g h0 p l e s m args below meth c H locs lsM X hP hz hS hs hl)
theorem kr_lconst {n : Fin 2} (hd : decode (fk_M k).2.1 pc = .ok (.lconst n, 1)) (h : Wk k d ci C S (pc + 1) (.long (Int64.ofNat (n : Nat)) :: st) fs as lf) : Wk k d ci C S pc st fs as lf := by
  intro g h0 p l e s m args below meth c H locs lsM X hP hz hS hs hl
  exact lv_lconst X.1 X.2.1 hd rfl (h g h0 p l e s m args below meth c H locs lsM X hP hz hS hs hl)
theorem kr_ldc {i : Nat} {v : Int32} (hd : decode (fk_M k).2.1 pc = .ok (.ldc i, 2)) (hw : Jvm.Cond.constant (fk_M k).1.cls i v ∈ lw_tbl) (h : Wk k d ci C S (pc + 2) (.int v :: st) fs as lf) : Wk k d ci C S pc st fs as lf := by
  intro g h0 p l e s m args below meth c H locs lsM X hP hz hS hs hl
  exact lv_ldc X.1 X.2.1 X.2.2.2.2.2.1 (X.2.2.2.2.2.2.1 _ (fk_inW hw rfl)) hd (h g h0 p l e s m args below meth c H locs lsM X hP hz hS hs hl)
theorem kr_ldcw {i : Nat} {v : Int32} (hd : decode (fk_M k).2.1 pc = .ok (.ldc_w i, 3)) (hw : Jvm.Cond.constant (fk_M k).1.cls i v ∈ lw_tbl) (h : Wk k d ci C S (pc + 3) (.int v :: st) fs as lf) : Wk k d ci C S pc st fs as lf := by
  intro g h0 p l e s m args below meth c H locs lsM X hP hz hS hs hl
  exact lv_ldcw X.1 X.2.1 X.2.2.2.2.2.1 (X.2.2.2.2.2.2.1 _ (fk_inW hw rfl)) hd (h g h0 p l e s m args below meth c H locs lsM X hP hz hS hs hl)
theorem kr_null (hd : decode (fk_M k).2.1 pc = .ok (.aconst_null, 1)) (h : Wk k d ci C S (pc + 1) (.null :: st) fs as lf) : Wk k d ci C S pc st fs as lf := by
  intro g h0 p l e s m args below meth c H locs lsM X hP hz hS hs hl
  exact lv_null X.1 X.2.1 hd (h g h0 p l e s m args below meth c H locs lsM X hP hz hS hs hl)
theorem kr_dup {i : Nat} (hd : decode (fk_M k).2.1 pc = .ok (.dup, 1)) (h : Wk k d ci C S (pc + 1) (.ref i :: .ref i :: st) fs as lf) : Wk k d ci C S pc (.ref i :: st) fs as lf := by
  intro g h0 p l e s m args below meth c H locs lsM X hP hz hS hs hl
  exact lv_dup X.1 X.2.1 hd rfl (h g h0 p l e s m args below meth c H locs lsM X hP hz hS hs hl)
theorem kr_newa {at0 : ArrayType} {n : Int32} {t N : Nat} {ty : FieldType} (hd : decode (fk_M k).2.1 pc = .ok (.newarray at0, 2)) (hty : newarray.typeOf at0 = ty) (htt : (t = 0 ∧ ty = .int) ∨ (t = 1 ∧ ty = .long) ∨ (t = 2 ∧ ty = .byte) ∨ (t = 3 ∧ ty = .boolean)) (hw : Jvm.Cond.arrayClass ty ∈ lw_tbl) (hn : ¬ n < 0) (hN : n.toNatClampNeg = N) (hb : N * 8 ≤ 536870912) (hc : as.length + 1 ≤ C) (hs0 : kc_sm as + N ≤ S)
    (h : Wk k d ci C S (pc + 2) (.ref (as.length + 1) :: st) fs (as ++ [.inl (t, N)]) lf) : Wk k d ci C S pc (.int n :: st) fs as lf := by
  intro g h0 p l e s m args below meth c H locs lsM X hP hz hS hs hl
  obtain ⟨x1, x2, x3, x4, x5, x6, x7, x8, x9, x10⟩ := id X
  subst hty
  have hby : N * componentBytes (newarray.typeOf at0) ≤ 536870912 := by
    refine Nat.le_trans (Nat.mul_le_mul_left N ?_) hb
    rcases htt with ⟨_, e⟩ | ⟨_, e⟩ | ⟨_, e⟩ | ⟨_, e⟩ <;> rw [e] <;> decide
  refine va_newaK x1 x2 (x7 _ (fk_inW hw rfl)) rfl hd rfl hn hN hby hc hs0 hz fun H1 cA e1 z1 o1 _ hf => ?_
  obtain ⟨x, hx1, hx2⟩ : ∃ x, kc_ar g t N = .inl (cA, N, x) ∧ vp_cell cA (N, x) = arrV cA N (fun _ => defaultValue (newarray.typeOf at0)) := by
    rcases htt with ⟨rfl, e⟩ | ⟨rfl, e⟩ | ⟨rfl, e⟩ | ⟨rfl, e⟩ <;> rw [e] at hf ⊢
    · have h2 : s.vm.findClass _ = some (g.2.2 0) := (x8.2 0 _ rfl).2
      cases h2.symm.trans hf
      exact ⟨_, rfl, rfl⟩
    · have h2 : s.vm.findClass _ = some (g.2.2 1) := (x8.2 1 _ rfl).2
      cases h2.symm.trans hf
      exact ⟨_, rfl, rfl⟩
    · have h2 : s.vm.findClass _ = some (g.2.2 2) := (x8.2 2 _ rfl).2
      cases h2.symm.trans hf
      exact ⟨_, rfl, rfl⟩
    · have h2 : s.vm.findClass _ = some (g.2.2 3) := (x8.2 3 _ rfl).2
      cases h2.symm.trans hf
      exact ⟨_, rfl, rfl⟩
  have hP1 : va_P g.1 fk_cls (kc_w g h0 (.inr (ci, fs) :: (as ++ [.inl (t, N)]))) H1 := by
    rw [show (Sum.inr (ci, fs) :: (as ++ [.inl (t, N)]) : List kcE) = (.inr (ci, fs) :: as) ++ [.inl (t, N)] from rfl, kc_w_snoc]
    refine (hP.kept (fun j q hq => ?_)).app (fun j q hq => ?_)
    · have := (hP j q hq).lt
      exact o1 q.1 (by omega)
    · have hj : j < 1 := (List.getElem?_eq_some_iff.mp hq).1
      rw [show j = 0 by omega] at hq
      cases hq
      show va_at g.1 fk_cls (_, kc_ar g t N) H1
      rw [hx1]
      show H1[_]? = some (vp_cell _ _)
      rw [hx2]
      exact e1
  have hS1 : va_S (fun q => h0 ≤ q) s.heap H1 locs := ⟨Nat.le_trans hS.1 (by omega), fun q q1 q2 => (o1 q (by omega)).trans (hS.2.1 q q1 q2), hS.2.2⟩
  have r := h g h0 p l e s m args below meth c H1 locs lsM X hP1 (by rw [z1, List.length_append]; simp; omega) hS1 hs hl
  rw [kc_sm_snoc, List.length_append] at r
  exact r
theorem kr_new {i cj : Nat} {q : vw_C} (hd : decode (fk_M k).2.1 pc = .ok (.new i, 3)) (hq : fk_cls[cj]? = some q) (hw1 : Jvm.Cond.classLink (fk_M k).1.cls i q.1 ∈ lw_tbl) (hw2 : Jvm.Cond.instantiable q.1 q.2.2 ∈ lw_tbl) (hw3 : Jvm.Cond.initialized q.1 ∈ lw_tbl) (hc : as.length + 1 ≤ C) (hs0 : kc_sm as + q.2.2 ≤ S)
    (h : Wk k d ci C S (pc + 3) (.ref (as.length + 1) :: st) fs (as ++ [.inr (cj, kc_df cj)]) lf) : Wk k d ci C S pc st fs as lf := by
  intro g h0 p l e s m args below meth c H locs lsM X hP hz hS hs hl
  obtain ⟨x1, x2, x3, x4, x5, x6, x7, x8, x9, x10⟩ := id X
  obtain ⟨f1, f2, f3⟩ := fk_cfacts hq
  obtain ⟨hci, hlen⟩ := fk_tgl hq
  have hKn := x8.1 cj _ hq
  refine W.newcK x1 x2 x6 (x7 _ (fk_inW hw1 rfl)) (x7 _ (fk_inW hw2 rfl)) (x7 _ (fk_inW hw3 rfl)) rfl hd hc hs0 hKn.2.1 hz fun H1 kC hkC e1 z1 o1 => ?_
  have hP1 : va_P g.1 fk_cls (kc_w g h0 (.inr (ci, fs) :: (as ++ [.inr (cj, kc_df cj)]))) H1 := by
    rw [show (Sum.inr (ci, fs) :: (as ++ [.inr (cj, kc_df cj)]) : List kcE) = (.inr (ci, fs) :: as) ++ [.inr (cj, kc_df cj)] from rfl, kc_w_snoc]
    refine (hP.kept (fun j q hq => ?_)).app (fun j q hq => ?_)
    · have := (hP j q hq).lt
      exact o1 q.1 (by omega)
    · have hj : j < 1 := (List.getElem?_eq_some_iff.mp hq).1
      rw [show j = 0 by omega] at hq
      cases hq
      refine ⟨_, by assumption, (u_born (fk_ty cj) x7 (fun w h => fk_inW (f1 w h) (fk_lay_good w h)) hKn hkC e1 f2).to fun j hj => ?_⟩
      obtain ⟨t, ht⟩ : ∃ t, (fk_tg.getD cj [])[j]? = some t := ⟨_, List.getElem?_eq_getElem (by rw [hlen]; exact hj)⟩
      exact kc_born hci ht
  have hS1 : va_S (fun q => h0 ≤ q) s.heap H1 locs := ⟨Nat.le_trans hS.1 (by omega), fun q q1 q2 => (o1 q (by omega)).trans (hS.2.1 q q1 q2), hS.2.2⟩
  have r := h g h0 p l e s m args below meth c H1 locs lsM X hP1 (by rw [z1, List.length_append]; simp; omega) hS1 hs hl
  rw [kc_sm_snoc, List.length_append] at r
  have e2 : kc_sz (.inr (cj, kc_df cj)) = q.2.2 := by show (kc_df cj).length = _; unfold kc_df; rw [List.length_map, hlen]
  rw [e2] at r
  exact r
end KR
/-- what a field of this tag may hold -/
def kc_may (t : Nat) (v : Value) : Bool := match t, v with
  | 0, .int _ => true
  | 1, .int x => decide (x = 0) || decide (x = 1)
  | 3, .long _ => true
  | 4, .ref _ => true
  | 5, .ref _ => true
  | 5, .null => true
  | _, _ => false
theorem kc_may_s {cj j t : Nat} {v : Value} (hc : cj < 13) (ht : (fk_tg.getD cj [])[j]? = some t) (h4 : t = 4 → (∃ n, fk_ty cj j = .object n) ∨ ∃ n, fk_ty cj j = .array n) (hm : kc_may t v = true) (h0 : Nat) : narrow (fk_ty cj j) (kc_tr h0 v) = kc_tr h0 v ∧ fits (fk_ty cj j) (kc_tr h0 v) = true := by
  obtain ⟨g0, g1, g3, g5⟩ := fk_tag hc ht
  unfold kc_may at hm
  split at hm
  · rw [g0 rfl]; exact ⟨rfl, rfl⟩
  next x =>
    rw [g1 rfl]
    have hx : x = 0 ∨ x = 1 := by simpa using hm
    exact ⟨(fk_bool hx).1, (fk_bool hx).2.1⟩
  · rw [g3 rfl]; exact ⟨rfl, rfl⟩
  · rcases h4 rfl with ⟨n, e⟩ | ⟨n, e⟩ <;> rw [e] <;> exact ⟨rfl, rfl⟩
  · rcases g5 rfl with ⟨n, e⟩ | ⟨n, e⟩ <;> rw [e] <;> exact ⟨rfl, rfl⟩
  · rcases g5 rfl with ⟨n, e⟩ | ⟨n, e⟩ <;> rw [e] <;> exact ⟨rfl, rfl⟩
  · cases hm
theorem kc_tag4 : (List.range 13).all (fun ci => ((fk_tg.getD ci []).mapIdx (fun j t => match t with
    | 4 => match fk_ty ci j with
      | .object _ => true
      | .array _ => true
      | _ => false
    | _ => true)).all id) = true := by decide +kernel
theorem kc_t4 {cj j t : Nat} (hc : cj < 13) (ht : (fk_tg.getD cj [])[j]? = some t) (h : t = 4) : (∃ n, fk_ty cj j = .object n) ∨ ∃ n, fk_ty cj j = .array n := by
  subst h
  have h1 := List.all_eq_true.mp kc_tag4 cj (List.mem_range.mpr hc)
  have h3 := List.all_eq_true.mp h1 _ (List.mem_of_getElem? (i := j) (by rw [List.getElem?_mapIdx, ht]; rfl))
  simp only [id] at h3
  split at h3
  next n hn => exact Or.inl ⟨n, hn⟩
  next n hn => exact Or.inr ⟨n, hn⟩
  next => cases h3
section KP
variable {p : Program} {l : Launch} {e : Env} {R : Room} {s : State} {m : MethodId} {args : Array Value} {below : List Frame} {meth : Method} {c : Code} {H : Heap} {locs : List Loc} {cells slots : Nat} {Q : State → Prop}
variable {cc : ByteArray} {pc : Nat} {ls : Array Slot} {rest : List Value} {D : va_G} {A : Nat → Prop} {a : Nat} {tys : List (ClassId × FieldType)} {ws : va_W} {H0 : Heap}
theorem kc_pu {ci k N : Nat} {C : String} {T : u_T} {fs : List Value} {v : Value} {own : String} {index : Nat} {ty : FieldType} (hexec : p.tables.exec = Jvm.exec) (hb : c.code = cc) (hts : ∀ w ∈ fk_W, w.before args s = true) (hown : s.vm.findClass own = some m.cls) (hK : va_K D fk_cls tys s) (hP : va_P D fk_cls ws H) (hD : va_D A ws) (hS0 : va_S A H0 H locs)
    (he : ws[0]? = some (a, .inr (ci, fs))) (hc : fk_cls[ci]? = some (C, T, N)) (hk : k < N) (hlink : (Jvm.Cond.fieldLink own index (T k).1 (T k).2.1 (T k).2.2.1).before args s = true) (hin2 : (T k).2.2.2 = true → meth.name = "<init>" ∧ (T k).1 = own) (hd : parseFieldDescriptor (T k).2.2.1 = some ty) (hn : narrow ty v = v) (hfit : fits ty v = true) (hl : k < fs.length) (hdg : decode cc pc = .ok (.putfield index, 3))
    (kk : ∀ (H1 : Heap) (locs1 : List Loc), va_P D fk_cls (ws.set 0 (a, .inr (ci, fs.set k v))) H1 → H1.size = H.size → va_S A H0 H1 locs1 → W p l e R s m args below meth c H1 locs1 cells slots Q (F0 m (pc + 3) ls rest)) : W p l e R s m args below meth c H locs cells slots Q (F0 m pc ls (v :: .ref a :: rest)) := by
  obtain ⟨fin, fty, fnm⟩ := fk_cfacts hc
  have hwords : ∀ w ∈ u_ws C T N, w ∈ fk_W := fun w h => fk_inW (fin w h) (fk_lay_good w h)
  obtain ⟨r, hr1, cell, hcell, hcls, hvm, hslots⟩ := hP 0 _ he
  cases hr1.symm.trans hc
  obtain ⟨hSl, hfc, kC, hkC, hkind⟩ := hK.1 ci _ hc
  obtain ⟨cf, kf, fi, f, hfound, hslot⟩ := hSl k hk
  have hnost := (u_facts hfc hkC (u_lays hts hwords hk) hfound).1
  have hlt : f.slot < cell.slots.size := by rw [hslot]; exact k2_hasslot (hslots k hk)
  have done : ∀ H1 : Heap, H1[a]? = some (cell.setSlot f.slot v) → H1.size = H.size → (∀ q, q ≠ a → H1[q]? = H[q]?) → va_P D fk_cls (ws.set 0 (a, .inr (ci, fs.set k v))) H1 := by
    intro H1 h1 _ h3
    rw [hslot] at h1
    exact hP.set hD he ⟨_, hc, t_OB.to (V := updV (vp_V fs) k v) ⟨_, h1, hcls, hvm, t_set hslots (va_apart (own := own) hts hwords _ fty fnm hK hc) hk v⟩ (fun j _ => vp_updV_set hl v j)⟩ h3
  have hlay := hts _ (hwords _ (u_in_lay hk))
  unfold u_lay at hlay
  cases hf : (T k).2.2.2 with
  | false =>
    rw [if_neg (by rw [hf]; decide)] at hlay
    have hstore := u_store hfc hkC hkind hlay hfound hd hn hfit
    exact W.putK hexec hb (f := f) ⟨hown, hlink, ⟨_, _, _, hfound⟩, hnost⟩ (by rw [hcls]; exact hstore) hcell hvm hlt rfl rfl hdg fun H1 h1 h2 h3 => kk H1 _ (done H1 h1 h2 h3) h2 (hS0.put h2 h3 (hD.2 0 _ he))
  | true =>
    rw [if_pos hf] at hlay
    obtain ⟨hinit, hdecl⟩ := hin2 hf
    have hmine : m.cls = cf := by
      obtain ⟨_, _, c', _, _, _, -, -, hf', -, -, -, hown2, -⟩ := Cond.laysFinal_spec hlay
      have e1 : c' = cf := by
        have := hfound.symm.trans hf'
        simp at this
        exact this.1.symm
      rw [hdecl] at hown2
      rw [← e1]
      exact Option.some.inj (hown.symm.trans hown2)
    have hfits := u_fits hfc hkC hkind (Or.inr hlay) hfound hd hn hfit
    exact W.putFinK hexec hb hown hlink hfound hnost hmine hinit (by rw [hcls]; exact hfits) hcell hvm hlt rfl rfl hdg fun H1 h1 h2 h3 => kk H1 _ (done H1 h1 h2 h3) h2 (hS0.put h2 h3 (hD.2 0 _ he))
end KP
section KR2
variable {k d ci C S pc : Nat} {st fs : List Value} {as lf : List kcE}
theorem kr_put {idx slot t N : Nat} {Cn : String} {T : u_T} {v : Value} (hd : decode (fk_M k).2.1 pc = .ok (.putfield idx, 3)) (htg : (fk_tg.getD ci [])[slot]? = some t) (hc : fk_cls[ci]? = some (Cn, T, N)) (hk : slot < N) (hlen : slot < fs.length)
    (hw : Jvm.Cond.fieldLink (fk_M k).1.cls idx (T slot).1 (T slot).2.1 (T slot).2.2.1 ∈ lw_tbl) (hown : (T slot).1 = (fk_M k).1.cls) (hm : kc_may t v = true) (h : Wk k d ci C S (pc + 3) st (fs.set slot v) as lf) : Wk k d ci C S pc (v :: .ref 0 :: st) fs as lf := by
  intro g h0 p l e s m args below meth c H locs lsM X hP hz hS hs hl
  obtain ⟨x1, x2, x3, x4, x5, x6, x7, x8, x9, x10⟩ := id X
  obtain ⟨f1, f2, f3⟩ := fk_cfacts hc
  obtain ⟨hci, hlen2⟩ := fk_tgl hc
  obtain ⟨hn, hf⟩ := kc_may_s hci htg (kc_t4 hci htg) hm h0
  have hkk : ∀ (H1 : Heap) (locs1 : List Loc), va_P g.1 fk_cls ((kc_w g h0 (.inr (ci, fs) :: as)).set 0 (h0, .inr (ci, (fs.map (kc_tr h0)).set slot (kc_tr h0 v)))) H1 → H1.size = H.size → va_S (fun q => h0 ≤ q) s.heap H1 locs1 → W p l e (kc_rm d C S) s m args below meth c H1 locs1 as.length (kc_sm as) (MQ below (kc_Qc g h0 lf) args s C S (fun q => h0 ≤ q)) (F0 m (pc + 3) lsM (st.map (kc_tr h0))) := by
    intro H1 locs1 hP1 z1 hS1
    have e1 : (kc_w g h0 (.inr (ci, fs) :: as)).set 0 (h0, .inr (ci, (fs.map (kc_tr h0)).set slot (kc_tr h0 v))) = kc_w g h0 (.inr (ci, fs.set slot v) :: as) := by
      unfold kc_w
      rw [List.mapIdx_cons, List.mapIdx_cons, List.set_cons_zero]
      congr 2
      show Sum.inr (ci, _) = Sum.inr (ci, _)
      rw [List.map_set]
    rw [e1] at hP1
    exact h g h0 p l e s m args below meth c H1 locs1 lsM X hP1 (z1.trans hz) hS1 hs hl
  have hl0 : (kc_w g h0 (.inr (ci, fs) :: as))[0]? = some (h0, .inr (ci, fs.map (kc_tr h0))) := by
    unfold kc_w
    rw [List.mapIdx_cons]
    rfl
  exact kc_pu x1 x2 x7 x6 x8 hP (kc_D g h0 _) hS hl0 hc hk (x7 _ (fk_inW hw rfl)) (fun _ => ⟨x10, hown⟩) (f2 _ hk) hn hf (by rw [List.length_map]; exact hlen) hd hkk
theorem kr_obj {idx : Nat} (hd : decode (fk_M k).2.1 pc = .ok (.invokespecial idx, 3)) (hw : Jvm.Cond.methodLink (fk_M k).1.cls idx Lib.objectInit ∈ lw_tbl) (hi : Jvm.Cond.instanceMethod Lib.objectInit ∈ lw_tbl) (hc : Jvm.Cond.code Lib.objectInit ⟨#[0xb1]⟩ 1 none ∈ lw_tbl) (h : Wk k (d + 1) ci C S (pc + 3) [] fs as lf) : Wk k (d + 1) ci C S pc [.ref 0] fs as lf := by
  intro g h0 p l e s m args below meth c H locs lsM X hP hz hS hs hl
  obtain ⟨x1, x2, x3, x4, x5, x6, x7, x8, x9, x10⟩ := id X
  exact W.objInit x1 x2 x6 (x7 _ (fk_inW hw rfl)) (x7 _ (fk_inW hi rfl)) (x7 _ (fk_inW hc rfl)) (g := F0 m pc lsM [.ref h0]) rfl (hl.1.trans x3.symm) rfl hd (Nat.succ_le_succ (Nat.zero_le d)) (by show 2 * 0 + 0 + 12 ≤ 40 * (d + 1); omega) (h g h0 p l e s m args below meth c H locs lsM X hP hz hS hs hl)
theorem kr_ret (hd : decode (fk_M k).2.1 pc = .ok (.return_, 1)) (hr : (fk_M k).2.2.2 = none) (hC : as.length = C) (hSm : kc_sm as = S) (he : (.inr (ci, fs) :: as) = lf) : Wk k d ci C S pc [] fs as lf := by
  intro g h0 p l e s m args below meth c H locs lsM X hP hz hS hs hl
  obtain ⟨x1, x2, x3, x4, x5, x6, x7, x8, x9, x10⟩ := id X
  subst hC
  subst hSm
  subst he
  exact W.vret x1 x2 (x4.trans hr) (fun t ht _ => ⟨rfl, by rw [ht, hz]; rfl, by rw [ht]; exact hP, fun q hq => by rw [ht]; exact hS.2.1 q (by omega) (by omega)⟩) hS.2.2 hd x5
theorem kr_init {idx j cj : Nat} {host : String} {a2 : List kcE} {f2 : List Value} {q : vw_C} (hd : decode (fk_M k).2.1 pc = .ok (.invokespecial idx, 3)) (hj : fk_mok j) (hjn : (fk_M j).1.name = "<init>") (hret : (fk_M j).2.2.2 = none) (hl0 : Jvm.Cond.methodLinkNest (fk_M k).1.cls idx (fk_M j).1 host ∈ lw_tbl) (hi : Jvm.Cond.instanceMethod (fk_M j).1 ∈ lw_tbl)
    (hp : fk_np j 0) (hm : (fk_M j).2.2.1 ≤ 21) (hC : as.length + 1 + a2.length ≤ C) (hS0 : kc_sm as + (kc_df cj).length + kc_sm a2 ≤ S) (hst : (st.map fun v => Value.category v).sum ≤ 8) (hf2 : f2.length = (kc_df cj).length)
    (hcl : Kt d j cj f2 a2) (h : Wk k (d + 1) ci C S (pc + 3) st fs (as ++ (Sum.inr (cj, f2) :: a2).map (kc_sh (as.length + 1))) lf) : Wk k (d + 1) ci C S pc (.ref (as.length + 1) :: st) fs (as ++ [.inr (cj, kc_df cj)]) lf := by
  intro g h0 p l e s m args below meth c H locs lsM X hP hz hS hs hl
  obtain ⟨x1, x2, x3, x4, x5, x6, x7, x8, x9, x10⟩ := id X
  have hlen : (as ++ [Sum.inr (cj, kc_df cj)] : List kcE).length = as.length + 1 := by simp
  rw [hlen] at hz
  have hw0 : kc_w g h0 (Sum.inr (ci, fs) :: (as ++ [.inr (cj, kc_df cj)])) = kc_w g h0 (.inr (ci, fs) :: as) ++ [(h0 + (as.length + 1), kc_se g h0 (.inr (cj, kc_df cj)))] := kc_w_snoc g h0 (.inr (ci, fs) :: as) (.inr (cj, kc_df cj))
  rw [hw0] at hP
  have hdf : (kc_df cj).map (kc_tr h0) = (kc_df cj).map (kc_tr (h0 + (as.length + 1))) := by
    apply List.map_congr_left
    intro v hv
    unfold kc_df at hv
    obtain ⟨t, -, rfl⟩ := List.mem_map.mp hv
    split <;> rfl
  have hPold : va_P g.1 fk_cls (kc_w g h0 (.inr (ci, fs) :: as)) H := fun j q hq => hP j q (by rw [List.getElem?_append_left (List.getElem?_eq_some_iff.mp hq).1]; exact hq)
  have hPnew : va_P g.1 fk_cls (kc_w g (h0 + (as.length + 1)) [.inr (cj, kc_df cj)]) H := by
    intro i q hq
    obtain ⟨e0, he0, rfl⟩ := kc_w_get hq
    have hi0 : i = 0 := by
      have := (List.getElem?_eq_some_iff.mp he0).1
      simp at this
      exact this
    subst hi0
    simp at he0
    subst he0
    have := hP (kc_w g h0 (.inr (ci, fs) :: as)).length (h0 + (as.length + 1), kc_se g h0 (.inr (cj, kc_df cj))) (by simp)
    have e5 : kc_se g h0 (.inr (cj, kc_df cj)) = kc_se g (h0 + (as.length + 1)) (.inr (cj, kc_df cj)) := by
      show Sum.inr (cj, _) = Sum.inr (cj, _)
      rw [hdf]
    rw [e5] at this
    exact this
  have cw : va_CN (kc_rm (d + 1) C S) s args (fk_M k).1.cls idx (fk_M j).1 host (fk_M j).2.1 (fk_M j).2.2.1 none (fk_wm j) (kc_rm d a2.length (kc_sm a2)) a2.length (kc_sm a2) 0 :=
    va_cnB (ws' := fk_W) 0 x7 (fk_goodIn (fk_wm_in hj.1)) (by unfold fk_wm fk_cw; rw [hret]) rfl rfl (x9 _ hl0 rfl) (x7 _ (fk_inW hj.2.1 rfl)) ⟨hj.2.2.1.1, hj.2.2.1.2, hp⟩ ⟨Nat.le_refl _, by show 8 + ((fk_M j).2.2.1 + 11) + 40 * d ≤ 40 * (d + 1); omega⟩
  have hrun := va_runIN (b := h0 + (as.length + 1)) (As := []) (rest := st.map (kc_tr h0)) (g := F0 m pc lsM ((Value.ref (as.length + 1) :: st).map (kc_tr h0))) (H := H) (cells := (as ++ [Sum.inr (cj, kc_df cj)] : List kcE).length) (slots := kc_sm (as ++ [.inr (cj, kc_df cj)])) (locs := locs) (meth := meth) (below := below) (e := e) ⟨x1, x2, x3, x6, x7⟩ (hcl g l (h0 + (as.length + 1))) ⟨cw, hjn, x7 _ (fk_inW hi rfl)⟩
    ⟨by
      rintro a U gg mk ⟨q1, q2, q3, q4, q5⟩
      exact ⟨q1, q2, q3, va_K.moved (u := U) (U := U.calling gg mk a) (Vm.Alike.refl U.vm) q4, fk_N.same (u := U) (U := U.calling gg mk a) rfl q5⟩, fun U hU hW => ⟨rfl, by rw [hU, hz]; omega, by rw [hU]; exact hPnew, va_K.moved hW.alike x8, fk_N.warm hW x9⟩⟩ rfl rfl hl.1 rfl (lv_room (by
      have : ((st.map (kc_tr h0)).map fun v => Value.category v) = st.map fun v => Value.category v := by
        rw [List.map_map]
        apply List.map_congr_left
        intro v _
        cases v <;> rfl
      rw [this]; exact hst)) hd ⟨by rw [hlen]; exact hC, by rw [kc_sm_snoc]; exact hS0⟩
  intro T hT Xs
  obtain ⟨v, st₀, t, T', L, e0, X', hL, e1, e2, ⟨hv, hts, htp, htk⟩, stp⟩ := hrun T hT Xs
  have hv' : v = none := Outcome.returned.inj hv
  subst hv'
  rw [e0] at htk
  have hP1 : va_P g.1 fk_cls (kc_w g h0 (Sum.inr (ci, fs) :: (as ++ (Sum.inr (cj, f2) :: a2).map (kc_sh (as.length + 1))))) T'.heap := by
    rw [show (Sum.inr (ci, fs) :: (as ++ (Sum.inr (cj, f2) :: a2).map (kc_sh (as.length + 1))) : List kcE) = (Sum.inr (ci, fs) :: as) ++ (Sum.inr (cj, f2) :: a2).map (kc_sh (Sum.inr (ci, fs) :: as : List kcE).length) from rfl, kc_w_app]
    refine (hPold.kept (fun i q hq => ?_)).app (by rw [e1]; exact htp)
    obtain ⟨e3, he3, rfl⟩ := kc_w_get hq
    have := (List.getElem?_eq_some_iff.mp he3).1
    rw [e1]
    exact htk _ (by simp at this; omega)
  have hS1 : va_S (fun q => h0 ≤ q) s.heap T'.heap (locs ++ L) := by
    refine ⟨Nat.le_trans hS.1 (by rw [e1, hts, hz, List.length_cons]; omega), fun q q1 q2 => ?_, fun q hq => ?_⟩
    · rw [e1, htk q (by omega)]
      exact hS.2.1 q q1 q2
    · rcases List.mem_append.mp hq with h3 | h3
      · exact hS.2.2 q h3
      · have h4 := hL q h3
        show h0 ≤ q.base
        have h5 : h0 + (as.length + 1) ≤ q.base := h4
        omega
  have hl3 : (as ++ (Sum.inr (cj, f2) :: a2).map (kc_sh (as.length + 1)) : List kcE).length = as.length + 1 + a2.length := by simp; omega
  have hs3 : kc_sm (as ++ (Sum.inr (cj, f2) :: a2).map (kc_sh (as.length + 1))) = kc_sm (as ++ [.inr (cj, kc_df cj)]) + kc_sm a2 := by
    have ez : ∀ x : kcE, kc_sz (kc_sh (as.length + 1) x) = kc_sz x := by
      intro x
      rcases x with x | ⟨a, b⟩
      · rfl
      · show (b.map _).length = b.length
        rw [List.length_map]
    have ez2 : ∀ x : List kcE, kc_sm (x.map (kc_sh (as.length + 1))) = kc_sm x := by
      intro x
      unfold kc_sm
      rw [List.map_map]
      congr 1
      apply List.map_congr_left
      intro y _
      exact ez y
    have ea : ∀ x y : List kcE, kc_sm (x ++ y) = kc_sm x + kc_sm y := by intro x y; simp [kc_sm]
    rw [ea, ez2, kc_sm_snoc]
    have : kc_sm (Sum.inr (cj, f2) :: a2) = f2.length + kc_sm a2 := by simp [kc_sm, kc_sz]
    rw [this, hf2]
    show _ = kc_sm as + (kc_df cj).length + _
    omega
  have r := h g h0 p l e s m args below meth c T'.heap (locs ++ L) lsM X hP1 (by rw [hl3, e1, hts]; simp; omega) hS1 hs hl
  rw [hl3, hs3] at r
  rw [hlen] at X'
  obtain ⟨t2, a1, b1⟩ := r T' rfl X'
  exact ⟨t2, stp t2 a1, b1⟩
end KR2
theorem Kt.of {d j ci : Nat} {fs : List Value} {as : List kcE} (hj : fk_mok j) (hn : (fk_M j).1.name = "<init>") (hm : Nat.ble 1 (fk_M j).2.2.1 = true) (h : Wk j d ci as.length (kc_sm as) 0 [] (kc_df ci) [] (.inr (ci, fs) :: as)) : Kt d j ci fs as := by
  intro g l h0
  refine Met.ofW (cc := (fk_M j).2.1) (maxL := (fk_M j).2.2.1) (ret := (fk_M j).2.2.2) hj.2.2.2 rfl ?_
  intro p e s m args below meth c s₁ B hml hv
  obtain ⟨rfl, hz, hP, hK, hN⟩ := hv
  have hts0 := atoms_spec (ws := fk_wm j) B.pre
  have hts : ∀ w ∈ fk_W, w.before (([.ref h0] : List Value)).toArray s = true := fun w hw => hts0 w (List.mem_cons_of_mem _ hw)
  have hl := lv_entry ([.ref h0]) (n := (fk_M j).2.2.1) (Nat.le_of_ble_eq_true hm)
  rw [lg_entry_eq]
  exact h g h0 p l e s m _ below meth c s.heap [] _ ⟨B.exec, B.bytes, hml, B.returns, B.notSynchronized, findClass_of_methodNamed B.named, hts, hK, hN, (name_of_methodNamed B.named B.method).1.trans hn⟩ hP hz va_S.rf hz hl
