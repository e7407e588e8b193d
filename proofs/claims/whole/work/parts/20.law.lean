/-! THE CLAIM OUT OF ONE WALK OF THE LAW'S BODY. Your part is whole_start (and what it stands on); all else here is the same for every law, but numbers. -/
def R_law : String := "FoldForgeLaw"
def lw_P (b : Addr) (xs : List Int32) (args : Array Value) (s : State) : Prop := args = #[.ref b] ∧ s.IntsAt b xs ∧ xs.length ≤ 3072 ∧ (Jvm.Cond.and given_1 narrow_1).before args s = true
def lw_Q (_ : Array Value) (s : State) (o : Outcome) (t : State) : Prop := o = .returned (some (.int 1)) ∧ Framed s o t [] 600000 7302250
def lw_Z (below : List Frame) (a : Array Value) (s : State) : State → Prop := fun t => ∃ o, t.status = .running ∧ Ended t below o ∧ lw_Q a s o t
/-- the law's own end, with 1 on the stack, nothing written that was there before, its room as the claim has it -/
theorem lw_ret {p : Program} {l : Launch} {e : Env} {s : State} {m : MethodId} {below : List Frame} {meth : Method} {c : Code} {b : Nat} (hx : p.tables.exec = Jvm.exec) (hb : c.code = code) (hr : meth.sig.returnType = ret) (hlocks : meth.locks = false) {pc : Nat} {H : Heap} {ls : Array Slot} (hdg : decode code pc = .ok (.ireturn, 1)) : W p l e room_1 s m #[Value.ref b] below meth c H [] 600000 7302250 (lw_Z below #[Value.ref b] s) (F0 m pc ls [.int 1]) := by
  intro T hT X
  obtain ⟨fs, hret, hrun, hended, hW, hframe⟩ := X.leave (v := some (.int 1)) (hlocks := hlocks) (fun h => by rw [hr] at h; cases h)
  have hmeth' : T.vm.method? m = some meth := X.method'
  refine ⟨T.setFrames fs, ?_, .returned (some (.int 1)), hrun, hended, rfl, ⟨_, rfl⟩, hW, hframe⟩
  jvm_step X.here [X.here.top, hx, hb, hdg, hmeth', hr, ret, narrow_b1]
  (try refine ⟨rfl, ?_⟩); (try refine ⟨rfl, ?_⟩)
  first | (intro acts; rw [hret _ acts rfl rfl rfl]) | rw [hret _ _ rfl rfl rfl]
  exact Steps.refl _
/-- what holds at the law's entry: the machine, the code, the tables' words (any of lw_tbl by 'hts w (by decide +kernel)'), the script of L ints xs at the cell b, what the Statement gives of the start (any of its parts by flat_of_before) -/
def lw_At (p : Program) (s : State) (m : MethodId) (meth : Method) (c : Code) (b L : Nat) (xs : Nat → Int32) : Prop :=
  p.tables.exec = Jvm.exec ∧ c.code = code ∧ meth.sig.returnType = ret ∧ c.maxLocals = 4 ∧ s.vm.findClass R_law = some m.cls ∧ (∀ w ∈ lw_tbl, w.before #[Value.ref b] s = true) ∧ va_X b L xs s s.heap ∧ b < s.heap.size ∧ meth.locks = false ∧ (Jvm.Cond.and given_1 narrow_1).before #[Value.ref b] s = true
/-! THE LAW'S BODY: rows over the small machine's state -/
theorem fk_N_of {args : Array Value} {s : State} (h : ∀ w ∈ lw_tbl, w.before args s = true) : fk_N s := by
  intro w hw hn
  have h1 := h w hw
  cases w <;> first | cases hn; done | exact va_Nw.of rfl h1
/-- what stands through the whole law: the machine, the script, and where the cells are -/
abbrev LC (p : Program) (s : State) (m : MethodId) (meth : Method) (c : Code) (b L B : Nat) (xs : Nat → Int32) : Prop := lw_At p s m meth c b L xs ∧ B = s.heap.size
def Gok (s : State) (B : Nat) (g : fkG) : Prop := va_K g.1 fk_cls (fk_tys g) s ∧ (fk_cst g (fun q => B ≤ q) s s.heap ∧ fk_R g s) ∧ fk_inj g ∧ (∀ i, i < fk_nC → B ≤ g.2.1 i) ∧ g.2.1 0 = B ∧ g.2.1 103 = B + 103
def LSL : Nat := 2000000
def LW (p : Program) (l : Launch) (e : Env) (s : State) (m : MethodId) (below : List Frame) (meth : Method) (c : Code) (b B : Nat) (i : Nat) (g : fkG) (σ : fkS) (pc : Nat) (st : List Value) : Prop :=
  ∀ (H : Heap) (locs : List Loc) (lsM : Array Slot), va_P g.1 fk_cls (fk_ws σ g) H → va_S (fun q => B ≤ q) s.heap H locs → lv_has lsM 4 [(0, .ref b), (1, .ref B), (2, .ref (B + 103)), (3, .int (nI i))] →
    W p l e room_1 s m #[Value.ref b] below meth c H locs 191 LSL (lw_Z below #[Value.ref b] s) (F0 m pc lsM st)
section LAWR
variable {p : Program} {l : Launch} {e : Env} {s : State} {m : MethodId} {below : List Frame} {meth : Method} {c : Code} {b L B i pc : Nat} {xs : Nat → Int32} {g : fkG} {σ : fkS} {st : List Value}
theorem lr_al {n : Fin 4} {k : Nat} {a : Nat} (C0 : LC p s m meth c b L B xs) (hd : decode code pc = .ok (.aload_n n, 1)) (hk : ([(0, .ref b), (1, .ref B), (2, .ref (B + 103)), (3, .int (nI i))] : List (Nat × Value))[k]? = some ((n : Nat), .ref a)) (h : LW p l e s m below meth c b B i g σ (pc + 1) (.ref a :: st)) : LW p l e s m below meth c b B i g σ pc st := by
  intro H locs lsM hP hS hl
  exact lv_aload_n C0.1.1 C0.1.2.1 hd rfl (lv_at hl k hk) (h H locs lsM hP hS hl)
theorem lr_il (C0 : LC p s m meth c b L B xs) (hd : decode code pc = .ok (.iload_n 3, 1)) (h : LW p l e s m below meth c b B i g σ (pc + 1) (.int (nI i) :: st)) : LW p l e s m below meth c b B i g σ pc st := by
  intro H locs lsM hP hS hl
  exact lv_iload_n C0.1.1 C0.1.2.1 hd rfl (lv_at hl 3 rfl) (h H locs lsM hP hS hl)
theorem lr_ic {n : Int} (C0 : LC p s m meth c b L B xs) (v : Int32) (hd : decode code pc = .ok (.iconst n, 1)) (hv : Int32.ofInt n = v) (h : LW p l e s m below meth c b B i g σ (pc + 1) (.int v :: st)) : LW p l e s m below meth c b B i g σ pc st := by
  intro H locs lsM hP hS hl
  exact lv_iconst C0.1.1 C0.1.2.1 hd hv (h H locs lsM hP hS hl)
theorem lr_bp {n : Int} (C0 : LC p s m meth c b L B xs) (v : Int32) (hd : decode code pc = .ok (.bipush n, 2)) (hv : (Int8.ofInt n).toInt32 = v) (h : LW p l e s m below meth c b B i g σ (pc + 2) (.int v :: st)) : LW p l e s m below meth c b B i g σ pc st := by
  intro H locs lsM hP hS hl
  exact lv_bipush C0.1.1 C0.1.2.1 hd hv (h H locs lsM hP hS hl)
theorem lr_ldc2 {n : Nat} {v : Int64} (C0 : LC p s m meth c b L B xs) (hd : decode code pc = .ok (.ldc2_w n, 3)) (hw : Jvm.Cond.constantLong R_law n v ∈ lw_tbl) (h : LW p l e s m below meth c b B i g σ (pc + 3) (.long v :: st)) : LW p l e s m below meth c b B i g σ pc st := by
  intro H locs lsM hP hS hl
  exact lv_ldc2 C0.1.1 C0.1.2.1 C0.1.2.2.2.2.1 (C0.1.2.2.2.2.2.1 _ hw) hd (h H locs lsM hP hS hl)
theorem lr_add {k : Nat} {v : Int32} (C0 : LC p s m meth c b L B xs) (hv : Int32.ofNat k = v) (hd : decode code pc = .ok (.iadd, 1)) (h : LW p l e s m below meth c b B i g σ (pc + 1) (.int (nI (i + k)) :: st)) : LW p l e s m below meth c b B i g σ pc (.int v :: .int (nI i) :: st) := by
  intro H locs lsM hP hS hl
  have e1 : nI i + v = nI (i + k) := by rw [← hv]; exact nI_add i k
  have h2 := h H locs lsM hP hS hl
  rw [← e1] at h2
  exact lv_iadd C0.1.1 C0.1.2.1 hd h2
theorem lr_ld {j : Nat} (C0 : LC p s m meth c b L B xs) (hj : j < L) (hL : L ≤ 3072) (hd : decode code pc = .ok (.iaload, 1)) (h : LW p l e s m below meth c b B i g σ (pc + 1) (.int (xs j) :: st)) : LW p l e s m below meth c b B i g σ pc (.int (nI j) :: .ref b :: st) := by
  intro H locs lsM hP hS hl
  obtain ⟨hx, hb, hr, hml, hown, hts, hX, hbl, hlocks, hgv⟩ := id C0.1
  have h2 := h H locs lsM hP hS hl
  have e1 : (nI j).toNatClampNeg = j := nI_clamp (by omega)
  refine va_sld (xs := xs) hx hb hX hbl (by rw [C0.2]; exact Nat.not_le.mpr hbl) hS (vp_in_nI hj (by omega)) hd ?_
  rw [e1]
  exact h2
theorem lr_i2l {x : Int32} (C0 : LC p s m meth c b L B xs) (hd : decode code pc = .ok (.i2l, 1)) (h : LW p l e s m below meth c b B i g σ (pc + 1) (.long x.toInt64 :: st)) : LW p l e s m below meth c b B i g σ pc (.int x :: st) := by
  intro H locs lsM hP hS hl
  exact lv_i2l C0.1.1 C0.1.2.1 hd rfl (h H locs lsM hP hS hl)
theorem lr_land {x y : Int64} (C0 : LC p s m meth c b L B xs) (hd : decode code pc = .ok (.land, 1)) (h : LW p l e s m below meth c b B i g σ (pc + 1) (.long (x &&& y) :: st)) : LW p l e s m below meth c b B i g σ pc (.long y :: .long x :: st) := by
  intro H locs lsM hP hS hl
  exact lv_land C0.1.1 C0.1.2.1 hd (h H locs lsM hP hS hl)
theorem lr_lor {x y : Int64} (C0 : LC p s m meth c b L B xs) (hd : decode code pc = .ok (.lor, 1)) (h : LW p l e s m below meth c b B i g σ (pc + 1) (.long (x ||| y) :: st)) : LW p l e s m below meth c b B i g σ pc (.long y :: .long x :: st) := by
  intro H locs lsM hP hS hl
  exact lv_lor C0.1.1 C0.1.2.1 hd (h H locs lsM hP hS hl)
theorem lr_lshl {x : Int64} {y : Int32} (C0 : LC p s m meth c b L B xs) (hd : decode code pc = .ok (.lshl, 1)) (h : LW p l e s m below meth c b B i g σ (pc + 1) (.long (fk_lshl x y) :: st)) : LW p l e s m below meth c b B i g σ pc (.int y :: .long x :: st) := by
  intro H locs lsM hP hS hl
  exact lv_lshl C0.1.1 C0.1.2.1 hd rfl (h H locs lsM hP hS hl)
/-- a call out of the law -/
theorem lr_call {j idx r ci n : Nat} {as : List Value} {Q' : Option Value → fkS → Prop} (C0 : LC p s m meth c b L B xs) (G0 : Gok s B g) (hd : decode code pc = .ok (.invokevirtual idx, 3)) (hI : fk_I (j, ci, as.length)) (hl0 : Jvm.Cond.methodLink R_law idx (fk_M j).1 ∈ lw_tbl) (hsh : fk_sh[r]? = some (ci + 4, n)) (hst : (st.map fun v => Value.category v).sum ≤ 8)
    (hcl : Cl 2000 j (.ref r :: as) σ Q') (hna : as.map (fk_tr g) = as) (hk : ∀ x σ', Q' x σ' → LW p l e s m below meth c b B i g σ' (pc + 3) ((x.map (fk_tr g)).toList ++ st)) : LW p l e s m below meth c b B i g σ pc (as.reverse ++ .ref (g.2.1 r) :: st) := by
  intro H locs lsM hP hS hl
  obtain ⟨hx, hb, hr, hml, hown, hts, hX, hbl, hlocks, hgv⟩ := id C0.1
  obtain ⟨hj, hin, hse, hnp, hm, q, hc, hq⟩ := hI
  obtain ⟨hK, hcst, hinj, hge, -, -⟩ := G0
  have hAB : ∀ q, fk_A g q → B ≤ q := fun q hq => by obtain ⟨i, hi, rfl⟩ := hq; exact hge i hi
  have hN : fk_N s := fk_N_of hts
  have hrec := va_recv (q := q) hK hP hc (fk_ws_get hsh)
  rw [hq] at hrec
  have hW : ∀ w ∈ fk_W, w.before #[Value.ref b] s = true := fun w hw => hts w (List.mem_filter.mp hw).1
  have cw : CallW room_1 s #[Value.ref b] R_law (fk_M j).1.cls idx (fk_M j).1 (fk_M j).2.1 (fk_M j).2.2.1 (fk_M j).2.2.2 (fk_wm j) (fk_rm 2000) 0 0 as.length :=
    ⟨callB_of as.length hW (fk_goodIn (fk_wm_in hj.1)) rfl rfl rfl (hts _ hj.2.1) (hts _ hl0) ⟨hj.2.2.1.1, hj.2.2.1.2, hnp⟩ ⟨Nat.le_of_ble_eq_true rfl, by have h9 : (fk_M j).2.2.1 ≤ 21 := hm; show 8 + ((fk_M j).2.2.1 + 11) + 40 * 2000 ≤ 84000; omega⟩, hts _ hin, hts _ hse⟩
  have hcs : fk_cst g (fk_A g) s s.heap := hcst.1.narrow hAB
  have hInn : ∀ U : State, U.heap = H → s.WarmedH U.vm → fk_In g σ U := by
    intro U hU hWm
    refine ⟨by rw [hU]; exact hP, va_K.moved hWm.alike hK, ?_, fk_N2.warm hWm ⟨hN, hcst.2⟩⟩
    rw [hU]
    have h1 : fk_cst g (fun q => B ≤ q) s H := hcst.1.kept hS.2.1
    exact fk_cst.moved hWm.alike (h1.narrow hAB)
  have hrun := va_runV (As := as) (rest := st) (g := F0 m pc lsM (as.reverse ++ .ref (g.2.1 r) :: st)) (cells := 191) (slots := LSL) (locs := locs) (meth := meth) (below := below) (e := e) ⟨hx, hb, hml, hown, hW⟩ (hcl g l hinj) cw ⟨fk_In_blind, hrec, fun U hU hWm => ⟨by show _ = ((Value.ref (g.2.1 r)) :: as.map (fk_tr g)).toArray; rw [hna], hInn U hU hWm⟩⟩ rfl rfl hl.1 rfl (lv_room hst) hd ⟨Nat.le_of_ble_eq_true rfl, Nat.le_of_ble_eq_true rfl⟩
  intro T hT Xs
  obtain ⟨v, st₀, t, T', L2, h0, X', hL, e1, e2, ⟨⟨rr, σ', hv, hq', hp⟩, hz, hkk⟩, stp⟩ := hrun T hT Xs
  have hv' : v = rr.map (fk_tr g) := Outcome.returned.inj hv
  subst hv'
  rw [h0] at hz hkk
  have h1 := hk rr σ' hq' T'.heap (locs ++ L2) lsM (by rw [e1]; exact hp) ⟨Nat.le_trans hS.1 (by rw [e1]; exact hz), fun q h1 h2 => by rw [e1, hkk q (Nat.lt_of_lt_of_le h1 hS.1) (fun z => h2 (hAB q z))]; exact hS.2.1 q h1 h2, fun q hq => by
      rcases List.mem_append.mp hq with h | h
      · exact hS.2.2 q h
      · exact hAB _ (hL q h)⟩ hl
  obtain ⟨t2, a1, b1⟩ := h1 T' rfl X'
  exact ⟨t2, stp t2 a1, b1⟩
theorem lr_eq {x y : Int32} {off : Int} (C0 : LC p s m meth c b L B xs) (hxy : x = y) (hd : decode code pc = .ok (.if_icmp .eq off, 3)) (ht : (pc : Int) + off = (518 : Nat)) (h : LW p l e s m below meth c b B i g σ 518 st) : LW p l e s m below meth c b B i g σ pc (.int y :: .int x :: st) := by
  intro H locs lsM hP hS hl
  exact lv_icmp_eq C0.1.1 C0.1.2.1 hd ht (fun _ => h H locs lsM hP hS hl) (fun z => absurd hxy z)
theorem lr_leq {x y : Int64} {off : Int} (C0 : LC p s m meth c b L B xs) (hxy : x = y) (hd0 : decode code pc = .ok (.lcmp, 1)) (hd : decode code (pc + 1) = .ok (.ifCond .eq off, 3)) (ht : ((pc + 1 : Nat) : Int) + off = (518 : Nat)) (h : LW p l e s m below meth c b B i g σ 518 st) : LW p l e s m below meth c b B i g σ pc (.long y :: .long x :: st) := by
  intro H locs lsM hP hS hl
  refine W.lcmp C0.1.1 C0.1.2.1 hd0 ?_
  have e1 : lg_cmp x y = 0 := by
    subst hxy
    unfold lg_cmp
    rw [if_neg (by simp), if_pos rfl]
  exact lv_if_eq C0.1.1 C0.1.2.1 hd ht (fun _ => h H locs lsM hP hS hl) (fun z => absurd e1 z)
theorem lr_st {st2 : List Value} (h : st = st2) (k : LW p l e s m below meth c b B i g σ pc st2) : LW p l e s m below meth c b B i g σ pc st := h ▸ k
end LAWR

/-- what each call of the law must do: the class, then the reference, the same answer, and J behind them -/
def OPS (J : fkS → Prop) (σ : fkS) : Prop :=
  (∀ (a0 : Int32) (a1 : Int32) (a2 : Int32) (a3 : Int32) (a4 : Int32), Ci 2000 13 [.ref 0, .int a0, .int a1, .int a2, .int a3, .int a4] σ (fun r σ1 => Ci 2000 237 [.ref 103, .int a0, .int a1, .int a2, .int a3, .int a4] σ1 (fun r2 σ2 => r = r2 ∧ J σ2))) ∧
  (∀ (a0 : Int32), Ci 2000 15 [.ref 0, .int a0] σ (fun r σ1 => Ci 2000 239 [.ref 103, .int a0] σ1 (fun r2 σ2 => r = r2 ∧ J σ2))) ∧
  (Ci 2000 99 [.ref 0] σ (fun r σ1 => Ci 2000 290 [.ref 103] σ1 (fun r2 σ2 => r = r2 ∧ J σ2))) ∧
  (∀ (a0 : Int32), Ci 2000 100 [.ref 0, .int a0] σ (fun r σ1 => Ci 2000 291 [.ref 103, .int a0] σ1 (fun r2 σ2 => r = r2 ∧ J σ2))) ∧
  (∀ (a0 : Int32) (a1 : Int32), Ci 2000 101 [.ref 0, .int a0, .int a1] σ (fun r σ1 => Ci 2000 292 [.ref 103, .int a0, .int a1] σ1 (fun r2 σ2 => r = r2 ∧ J σ2))) ∧
  (∀ (a0 : Int32) (a1 : Int64), Ci 2000 103 [.ref 0, .int a0, .long a1] σ (fun r σ1 => Ci 2000 295 [.ref 103, .int a0, .long a1] σ1 (fun r2 σ2 => r = r2 ∧ J σ2))) ∧
  (∀ (a0 : Int32) (a1 : Int32), Ci 2000 104 [.ref 0, .int a0, .int a1] σ (fun r σ1 => Ci 2000 296 [.ref 103, .int a0, .int a1] σ1 (fun r2 σ2 => r = r2 ∧ J σ2))) ∧
  (∀ (a0 : Int32), Cj 2000 138 [.ref 0, .int a0] σ (fun r σ1 => Cj 2000 320 [.ref 103, .int a0] σ1 (fun r2 σ2 => r = r2 ∧ J σ2))) ∧
  (∀ (a0 : Int32), Cj 2000 139 [.ref 0, .int a0] σ (fun r σ1 => Cj 2000 321 [.ref 103, .int a0] σ1 (fun r2 σ2 => r = r2 ∧ J σ2))) ∧
  (∀ (a0 : Int32), Ci 2000 140 [.ref 0, .int a0] σ (fun r σ1 => Ci 2000 322 [.ref 103, .int a0] σ1 (fun r2 σ2 => r = r2 ∧ J σ2))) ∧
  (∀ (a0 : Int32), Ci 2000 141 [.ref 0, .int a0] σ (fun r σ1 => Ci 2000 323 [.ref 103, .int a0] σ1 (fun r2 σ2 => r = r2 ∧ J σ2))) ∧
  (∀ (a0 : Int32), Ci 2000 142 [.ref 0, .int a0] σ (fun r σ1 => Ci 2000 324 [.ref 103, .int a0] σ1 (fun r2 σ2 => r = r2 ∧ J σ2))) ∧
  (∀ (a0 : Int32), Ci 2000 223 [.ref 0, .int a0] σ (fun r σ1 => Ci 2000 362 [.ref 103, .int a0] σ1 (fun r2 σ2 => r = r2 ∧ J σ2))) ∧
  (∀ (a0 : Int32), Ci 2000 235 [.ref 0, .int a0] σ (fun r σ1 => Ci 2000 367 [.ref 103, .int a0] σ1 (fun r2 σ2 => r = r2 ∧ J σ2)))
set_option maxRecDepth 100000 in
theorem law_feed {p : Program} {l : Launch} {e : Env} {s : State} {m : MethodId} {below : List Frame} {meth : Method} {c : Code} {b L B i : Nat} {xs : Nat → Int32} {g : fkG} {σ : fkS} {J : fkS → Prop} (hL : L ≤ 3072) (C0 : LC p s m meth c b L B xs) (G0 : Gok s B g) (hi : i + 6 ≤ L) (hO : OPS J σ) (hJ : ∀ σ2, J σ2 → LW p l e s m below meth c b B i g σ2 518 []) : LW p l e s m below meth c b B i g σ 104 [] := by
  refine lr_al (n := 1) (k := 1) C0 (by decide +kernel) rfl ?_
  refine lr_al (n := 0) (k := 0) C0 (by decide +kernel) rfl ?_
  refine lr_il C0 (by decide +kernel) ?_
  refine lr_ic (n := 1) C0 1 (by decide +kernel) rfl ?_
  refine lr_add (k := 1) C0 rfl (by decide +kernel) ?_
  refine lr_ld C0 (by omega) hL (by decide +kernel) ?_
  refine lr_al (n := 0) (k := 0) C0 (by decide +kernel) rfl ?_
  refine lr_il C0 (by decide +kernel) ?_
  refine lr_ic (n := 2) C0 2 (by decide +kernel) rfl ?_
  refine lr_add (k := 2) C0 rfl (by decide +kernel) ?_
  refine lr_ld C0 (by omega) hL (by decide +kernel) ?_
  refine lr_al (n := 0) (k := 0) C0 (by decide +kernel) rfl ?_
  refine lr_il C0 (by decide +kernel) ?_
  refine lr_ic (n := 3) C0 3 (by decide +kernel) rfl ?_
  refine lr_add (k := 3) C0 rfl (by decide +kernel) ?_
  refine lr_ld C0 (by omega) hL (by decide +kernel) ?_
  refine lr_al (n := 0) (k := 0) C0 (by decide +kernel) rfl ?_
  refine lr_il C0 (by decide +kernel) ?_
  refine lr_ic (n := 4) C0 4 (by decide +kernel) rfl ?_
  refine lr_add (k := 4) C0 rfl (by decide +kernel) ?_
  refine lr_ld C0 (by omega) hL (by decide +kernel) ?_
  refine lr_al (n := 0) (k := 0) C0 (by decide +kernel) rfl ?_
  refine lr_il C0 (by decide +kernel) ?_
  refine lr_ic (n := 5) C0 5 (by decide +kernel) rfl ?_
  refine lr_add (k := 5) C0 rfl (by decide +kernel) ?_
  refine lr_ld C0 (by omega) hL (by decide +kernel) ?_
  have e0 := G0.2.2.2.2.1
  refine lr_st (st2 := [.int (xs (i + 1)), .int (xs (i + 2)), .int (xs (i + 3)), .int (xs (i + 4)), .int (xs (i + 5))].reverse ++ .ref (g.2.1 0) :: []) (by rw [e0]; rfl) ?_
  refine lr_call (idx := 13) (r := 0) (as := [.int (xs (i + 1)), .int (xs (i + 2)), .int (xs (i + 3)), .int (xs (i + 4)), .int (xs (i + 5))]) C0 G0 (by decide +kernel) fk_i13 (fk_in3 (List.mem_of_getElem? (i := 185) rfl)) rfl (by decide) (hO.1 (xs (i + 1)) (xs (i + 2)) (xs (i + 3)) (xs (i + 4)) (xs (i + 5))) rfl (fun x0 σ0 hx0 => ?_)
  obtain ⟨r0, rfl, hx0⟩ := Qi_s hx0
  show LW p l e s m below meth c b B i g σ0 133 [.int r0]
  refine lr_al (n := 2) (k := 2) C0 (by decide +kernel) rfl ?_
  refine lr_al (n := 0) (k := 0) C0 (by decide +kernel) rfl ?_
  refine lr_il C0 (by decide +kernel) ?_
  refine lr_ic (n := 1) C0 1 (by decide +kernel) rfl ?_
  refine lr_add (k := 1) C0 rfl (by decide +kernel) ?_
  refine lr_ld C0 (by omega) hL (by decide +kernel) ?_
  refine lr_al (n := 0) (k := 0) C0 (by decide +kernel) rfl ?_
  refine lr_il C0 (by decide +kernel) ?_
  refine lr_ic (n := 2) C0 2 (by decide +kernel) rfl ?_
  refine lr_add (k := 2) C0 rfl (by decide +kernel) ?_
  refine lr_ld C0 (by omega) hL (by decide +kernel) ?_
  refine lr_al (n := 0) (k := 0) C0 (by decide +kernel) rfl ?_
  refine lr_il C0 (by decide +kernel) ?_
  refine lr_ic (n := 3) C0 3 (by decide +kernel) rfl ?_
  refine lr_add (k := 3) C0 rfl (by decide +kernel) ?_
  refine lr_ld C0 (by omega) hL (by decide +kernel) ?_
  refine lr_al (n := 0) (k := 0) C0 (by decide +kernel) rfl ?_
  refine lr_il C0 (by decide +kernel) ?_
  refine lr_ic (n := 4) C0 4 (by decide +kernel) rfl ?_
  refine lr_add (k := 4) C0 rfl (by decide +kernel) ?_
  refine lr_ld C0 (by omega) hL (by decide +kernel) ?_
  refine lr_al (n := 0) (k := 0) C0 (by decide +kernel) rfl ?_
  refine lr_il C0 (by decide +kernel) ?_
  refine lr_ic (n := 5) C0 5 (by decide +kernel) rfl ?_
  refine lr_add (k := 5) C0 rfl (by decide +kernel) ?_
  refine lr_ld C0 (by omega) hL (by decide +kernel) ?_
  have e1 := G0.2.2.2.2.2
  refine lr_st (st2 := [.int (xs (i + 1)), .int (xs (i + 2)), .int (xs (i + 3)), .int (xs (i + 4)), .int (xs (i + 5))].reverse ++ .ref (g.2.1 103) :: [.int r0]) (by rw [e1]; rfl) ?_
  refine lr_call (idx := 17) (r := 103) (as := [.int (xs (i + 1)), .int (xs (i + 2)), .int (xs (i + 3)), .int (xs (i + 4)), .int (xs (i + 5))]) C0 G0 (by decide +kernel) fk_i237 (fk_in9 (List.mem_of_getElem? (i := 120) rfl)) rfl (Nat.le_of_ble_eq_true rfl) (hx0) rfl (fun x1 σ1 hx1 => ?_)
  obtain ⟨r1, rfl, hr, hx1⟩ := Qi_s hx1
  show LW p l e s m below meth c b B i g σ1 162 [.int r1, .int r0]
  exact lr_eq (off := 356) C0 hr (by decide +kernel) (by decide) (hJ _ hx1)
set_option maxRecDepth 100000 in
theorem law_module {p : Program} {l : Launch} {e : Env} {s : State} {m : MethodId} {below : List Frame} {meth : Method} {c : Code} {b L B i : Nat} {xs : Nat → Int32} {g : fkG} {σ : fkS} {J : fkS → Prop} (hL : L ≤ 3072) (C0 : LC p s m meth c b L B xs) (G0 : Gok s B g) (hi : i + 6 ≤ L) (hO : OPS J σ) (hJ : ∀ σ2, J σ2 → LW p l e s m below meth c b B i g σ2 518 []) : LW p l e s m below meth c b B i g σ 167 [] := by
  refine lr_al (n := 1) (k := 1) C0 (by decide +kernel) rfl ?_
  refine lr_al (n := 0) (k := 0) C0 (by decide +kernel) rfl ?_
  refine lr_il C0 (by decide +kernel) ?_
  refine lr_ic (n := 1) C0 1 (by decide +kernel) rfl ?_
  refine lr_add (k := 1) C0 rfl (by decide +kernel) ?_
  refine lr_ld C0 (by omega) hL (by decide +kernel) ?_
  have e0 := G0.2.2.2.2.1
  refine lr_st (st2 := [.int (xs (i + 1))].reverse ++ .ref (g.2.1 0) :: []) (by rw [e0]; rfl) ?_
  refine lr_call (idx := 18) (r := 0) (as := [.int (xs (i + 1))]) C0 G0 (by decide +kernel) fk_i15 (fk_in3 (List.mem_of_getElem? (i := 193) rfl)) rfl (by decide) (hO.2.1 (xs (i + 1))) rfl (fun x0 σ0 hx0 => ?_)
  obtain ⟨r0, rfl, hx0⟩ := Qi_s hx0
  show LW p l e s m below meth c b B i g σ0 176 [.int r0]
  refine lr_al (n := 2) (k := 2) C0 (by decide +kernel) rfl ?_
  refine lr_al (n := 0) (k := 0) C0 (by decide +kernel) rfl ?_
  refine lr_il C0 (by decide +kernel) ?_
  refine lr_ic (n := 1) C0 1 (by decide +kernel) rfl ?_
  refine lr_add (k := 1) C0 rfl (by decide +kernel) ?_
  refine lr_ld C0 (by omega) hL (by decide +kernel) ?_
  have e1 := G0.2.2.2.2.2
  refine lr_st (st2 := [.int (xs (i + 1))].reverse ++ .ref (g.2.1 103) :: [.int r0]) (by rw [e1]; rfl) ?_
  refine lr_call (idx := 22) (r := 103) (as := [.int (xs (i + 1))]) C0 G0 (by decide +kernel) fk_i239 (fk_in9 (List.mem_of_getElem? (i := 128) rfl)) rfl (Nat.le_of_ble_eq_true rfl) (hx0) rfl (fun x1 σ1 hx1 => ?_)
  obtain ⟨r1, rfl, hr, hx1⟩ := Qi_s hx1
  show LW p l e s m below meth c b B i g σ1 185 [.int r1, .int r0]
  exact lr_eq (off := 333) C0 hr (by decide +kernel) (by decide) (hJ _ hx1)
set_option maxRecDepth 100000 in
theorem law_place {p : Program} {l : Launch} {e : Env} {s : State} {m : MethodId} {below : List Frame} {meth : Method} {c : Code} {b L B i : Nat} {xs : Nat → Int32} {g : fkG} {σ : fkS} {J : fkS → Prop} (hL : L ≤ 3072) (C0 : LC p s m meth c b L B xs) (G0 : Gok s B g) (hi : i + 6 ≤ L) (hO : OPS J σ) (hJ : ∀ σ2, J σ2 → LW p l e s m below meth c b B i g σ2 518 []) : LW p l e s m below meth c b B i g σ 190 [] := by
  refine lr_al (n := 1) (k := 1) C0 (by decide +kernel) rfl ?_
  have e0 := G0.2.2.2.2.1
  refine lr_st (st2 := [].reverse ++ .ref (g.2.1 0) :: []) (by rw [e0]; rfl) ?_
  refine lr_call (idx := 23) (r := 0) (as := []) C0 G0 (by decide +kernel) fk_i99 (fk_in5 (List.mem_of_getElem? (i := 65) rfl)) rfl (by decide) (hO.2.2.1) rfl (fun x0 σ0 hx0 => ?_)
  obtain ⟨r0, rfl, hx0⟩ := Qi_s hx0
  show LW p l e s m below meth c b B i g σ0 194 [.int r0]
  refine lr_al (n := 2) (k := 2) C0 (by decide +kernel) rfl ?_
  have e1 := G0.2.2.2.2.2
  refine lr_st (st2 := [].reverse ++ .ref (g.2.1 103) :: [.int r0]) (by rw [e1]; rfl) ?_
  refine lr_call (idx := 27) (r := 103) (as := []) C0 G0 (by decide +kernel) fk_i290 (fk_in10 (List.mem_of_getElem? (i := 93) rfl)) rfl (Nat.le_of_ble_eq_true rfl) (hx0) rfl (fun x1 σ1 hx1 => ?_)
  obtain ⟨r1, rfl, hr, hx1⟩ := Qi_s hx1
  show LW p l e s m below meth c b B i g σ1 198 [.int r1, .int r0]
  exact lr_eq (off := 320) C0 hr (by decide +kernel) (by decide) (hJ _ hx1)
set_option maxRecDepth 100000 in
theorem law_count {p : Program} {l : Launch} {e : Env} {s : State} {m : MethodId} {below : List Frame} {meth : Method} {c : Code} {b L B i : Nat} {xs : Nat → Int32} {g : fkG} {σ : fkS} {J : fkS → Prop} (hL : L ≤ 3072) (C0 : LC p s m meth c b L B xs) (G0 : Gok s B g) (hi : i + 6 ≤ L) (hO : OPS J σ) (hJ : ∀ σ2, J σ2 → LW p l e s m below meth c b B i g σ2 518 []) : LW p l e s m below meth c b B i g σ 203 [] := by
  refine lr_al (n := 1) (k := 1) C0 (by decide +kernel) rfl ?_
  refine lr_al (n := 0) (k := 0) C0 (by decide +kernel) rfl ?_
  refine lr_il C0 (by decide +kernel) ?_
  refine lr_ic (n := 1) C0 1 (by decide +kernel) rfl ?_
  refine lr_add (k := 1) C0 rfl (by decide +kernel) ?_
  refine lr_ld C0 (by omega) hL (by decide +kernel) ?_
  have e0 := G0.2.2.2.2.1
  refine lr_st (st2 := [.int (xs (i + 1))].reverse ++ .ref (g.2.1 0) :: []) (by rw [e0]; rfl) ?_
  refine lr_call (idx := 28) (r := 0) (as := [.int (xs (i + 1))]) C0 G0 (by decide +kernel) fk_i100 (fk_in5 (List.mem_of_getElem? (i := 69) rfl)) rfl (by decide) (hO.2.2.2.1 (xs (i + 1))) rfl (fun x0 σ0 hx0 => ?_)
  obtain ⟨r0, rfl, hx0⟩ := Qi_s hx0
  show LW p l e s m below meth c b B i g σ0 212 [.int r0]
  refine lr_al (n := 2) (k := 2) C0 (by decide +kernel) rfl ?_
  refine lr_al (n := 0) (k := 0) C0 (by decide +kernel) rfl ?_
  refine lr_il C0 (by decide +kernel) ?_
  refine lr_ic (n := 1) C0 1 (by decide +kernel) rfl ?_
  refine lr_add (k := 1) C0 rfl (by decide +kernel) ?_
  refine lr_ld C0 (by omega) hL (by decide +kernel) ?_
  have e1 := G0.2.2.2.2.2
  refine lr_st (st2 := [.int (xs (i + 1))].reverse ++ .ref (g.2.1 103) :: [.int r0]) (by rw [e1]; rfl) ?_
  refine lr_call (idx := 31) (r := 103) (as := [.int (xs (i + 1))]) C0 G0 (by decide +kernel) fk_i291 (fk_in10 (List.mem_of_getElem? (i := 97) rfl)) rfl (Nat.le_of_ble_eq_true rfl) (hx0) rfl (fun x1 σ1 hx1 => ?_)
  obtain ⟨r1, rfl, hr, hx1⟩ := Qi_s hx1
  show LW p l e s m below meth c b B i g σ1 221 [.int r1, .int r0]
  exact lr_eq (off := 297) C0 hr (by decide +kernel) (by decide) (hJ _ hx1)
set_option maxRecDepth 100000 in
theorem law_export {p : Program} {l : Launch} {e : Env} {s : State} {m : MethodId} {below : List Frame} {meth : Method} {c : Code} {b L B i : Nat} {xs : Nat → Int32} {g : fkG} {σ : fkS} {J : fkS → Prop} (hL : L ≤ 3072) (C0 : LC p s m meth c b L B xs) (G0 : Gok s B g) (hi : i + 6 ≤ L) (hO : OPS J σ) (hJ : ∀ σ2, J σ2 → LW p l e s m below meth c b B i g σ2 518 []) : LW p l e s m below meth c b B i g σ 226 [] := by
  refine lr_al (n := 1) (k := 1) C0 (by decide +kernel) rfl ?_
  refine lr_al (n := 0) (k := 0) C0 (by decide +kernel) rfl ?_
  refine lr_il C0 (by decide +kernel) ?_
  refine lr_ic (n := 1) C0 1 (by decide +kernel) rfl ?_
  refine lr_add (k := 1) C0 rfl (by decide +kernel) ?_
  refine lr_ld C0 (by omega) hL (by decide +kernel) ?_
  refine lr_al (n := 0) (k := 0) C0 (by decide +kernel) rfl ?_
  refine lr_il C0 (by decide +kernel) ?_
  refine lr_ic (n := 2) C0 2 (by decide +kernel) rfl ?_
  refine lr_add (k := 2) C0 rfl (by decide +kernel) ?_
  refine lr_ld C0 (by omega) hL (by decide +kernel) ?_
  have e0 := G0.2.2.2.2.1
  refine lr_st (st2 := [.int (xs (i + 1)), .int (xs (i + 2))].reverse ++ .ref (g.2.1 0) :: []) (by rw [e0]; rfl) ?_
  refine lr_call (idx := 32) (r := 0) (as := [.int (xs (i + 1)), .int (xs (i + 2))]) C0 G0 (by decide +kernel) fk_i101 (fk_in5 (List.mem_of_getElem? (i := 73) rfl)) rfl (by decide) (hO.2.2.2.2.1 (xs (i + 1)) (xs (i + 2))) rfl (fun x0 σ0 hx0 => ?_)
  obtain ⟨r0, rfl, hx0⟩ := Qi_s hx0
  show LW p l e s m below meth c b B i g σ0 240 [.int r0]
  refine lr_al (n := 2) (k := 2) C0 (by decide +kernel) rfl ?_
  refine lr_al (n := 0) (k := 0) C0 (by decide +kernel) rfl ?_
  refine lr_il C0 (by decide +kernel) ?_
  refine lr_ic (n := 1) C0 1 (by decide +kernel) rfl ?_
  refine lr_add (k := 1) C0 rfl (by decide +kernel) ?_
  refine lr_ld C0 (by omega) hL (by decide +kernel) ?_
  refine lr_al (n := 0) (k := 0) C0 (by decide +kernel) rfl ?_
  refine lr_il C0 (by decide +kernel) ?_
  refine lr_ic (n := 2) C0 2 (by decide +kernel) rfl ?_
  refine lr_add (k := 2) C0 rfl (by decide +kernel) ?_
  refine lr_ld C0 (by omega) hL (by decide +kernel) ?_
  have e1 := G0.2.2.2.2.2
  refine lr_st (st2 := [.int (xs (i + 1)), .int (xs (i + 2))].reverse ++ .ref (g.2.1 103) :: [.int r0]) (by rw [e1]; rfl) ?_
  refine lr_call (idx := 36) (r := 103) (as := [.int (xs (i + 1)), .int (xs (i + 2))]) C0 G0 (by decide +kernel) fk_i292 (fk_in10 (List.mem_of_getElem? (i := 101) rfl)) rfl (Nat.le_of_ble_eq_true rfl) (hx0) rfl (fun x1 σ1 hx1 => ?_)
  obtain ⟨r1, rfl, hr, hx1⟩ := Qi_s hx1
  show LW p l e s m below meth c b B i g σ1 254 [.int r1, .int r0]
  exact lr_eq (off := 264) C0 hr (by decide +kernel) (by decide) (hJ _ hx1)
set_option maxRecDepth 100000 in
theorem law_argument {p : Program} {l : Launch} {e : Env} {s : State} {m : MethodId} {below : List Frame} {meth : Method} {c : Code} {b L B i : Nat} {xs : Nat → Int32} {g : fkG} {σ : fkS} {J : fkS → Prop} (hL : L ≤ 3072) (C0 : LC p s m meth c b L B xs) (G0 : Gok s B g) (hi : i + 6 ≤ L) (hO : OPS J σ) (hJ : ∀ σ2, J σ2 → LW p l e s m below meth c b B i g σ2 518 []) : LW p l e s m below meth c b B i g σ 259 [] := by
  refine lr_al (n := 1) (k := 1) C0 (by decide +kernel) rfl ?_
  refine lr_al (n := 0) (k := 0) C0 (by decide +kernel) rfl ?_
  refine lr_il C0 (by decide +kernel) ?_
  refine lr_ic (n := 1) C0 1 (by decide +kernel) rfl ?_
  refine lr_add (k := 1) C0 rfl (by decide +kernel) ?_
  refine lr_ld C0 (by omega) hL (by decide +kernel) ?_
  refine lr_al (n := 0) (k := 0) C0 (by decide +kernel) rfl ?_
  refine lr_il C0 (by decide +kernel) ?_
  refine lr_ic (n := 2) C0 2 (by decide +kernel) rfl ?_
  refine lr_add (k := 2) C0 rfl (by decide +kernel) ?_
  refine lr_ld C0 (by omega) hL (by decide +kernel) ?_
  refine lr_i2l C0 (by decide +kernel) ?_
  refine lr_bp (n := 32) C0 32 (by decide +kernel) rfl ?_
  refine lr_lshl C0 (by decide +kernel) ?_
  refine lr_al (n := 0) (k := 0) C0 (by decide +kernel) rfl ?_
  refine lr_il C0 (by decide +kernel) ?_
  refine lr_ic (n := 3) C0 3 (by decide +kernel) rfl ?_
  refine lr_add (k := 3) C0 rfl (by decide +kernel) ?_
  refine lr_ld C0 (by omega) hL (by decide +kernel) ?_
  refine lr_i2l C0 (by decide +kernel) ?_
  refine lr_ldc2 (n := 37) (v := 4294967295) C0 (by decide +kernel) (fk_in11 (List.mem_of_getElem? (i := 185) rfl)) ?_
  refine lr_land C0 (by decide +kernel) ?_
  refine lr_lor C0 (by decide +kernel) ?_
  have e0 := G0.2.2.2.2.1
  refine lr_st (st2 := [.int (xs (i + 1)), .long (fk_lshl (xs (i + 2)).toInt64 32 ||| ((xs (i + 3)).toInt64 &&& 4294967295))].reverse ++ .ref (g.2.1 0) :: []) (by rw [e0]; rfl) ?_
  refine lr_call (idx := 39) (r := 0) (as := [.int (xs (i + 1)), .long (fk_lshl (xs (i + 2)).toInt64 32 ||| ((xs (i + 3)).toInt64 &&& 4294967295))]) C0 G0 (by decide +kernel) fk_i103 (fk_in5 (List.mem_of_getElem? (i := 85) rfl)) rfl (by decide) (hO.2.2.2.2.2.1 (xs (i + 1)) (fk_lshl (xs (i + 2)).toInt64 32 ||| ((xs (i + 3)).toInt64 &&& 4294967295))) rfl (fun x0 σ0 hx0 => ?_)
  obtain ⟨r0, rfl, hx0⟩ := Qi_s hx0
  show LW p l e s m below meth c b B i g σ0 288 [.int r0]
  refine lr_al (n := 2) (k := 2) C0 (by decide +kernel) rfl ?_
  refine lr_al (n := 0) (k := 0) C0 (by decide +kernel) rfl ?_
  refine lr_il C0 (by decide +kernel) ?_
  refine lr_ic (n := 1) C0 1 (by decide +kernel) rfl ?_
  refine lr_add (k := 1) C0 rfl (by decide +kernel) ?_
  refine lr_ld C0 (by omega) hL (by decide +kernel) ?_
  refine lr_al (n := 0) (k := 0) C0 (by decide +kernel) rfl ?_
  refine lr_il C0 (by decide +kernel) ?_
  refine lr_ic (n := 2) C0 2 (by decide +kernel) rfl ?_
  refine lr_add (k := 2) C0 rfl (by decide +kernel) ?_
  refine lr_ld C0 (by omega) hL (by decide +kernel) ?_
  refine lr_i2l C0 (by decide +kernel) ?_
  refine lr_bp (n := 32) C0 32 (by decide +kernel) rfl ?_
  refine lr_lshl C0 (by decide +kernel) ?_
  refine lr_al (n := 0) (k := 0) C0 (by decide +kernel) rfl ?_
  refine lr_il C0 (by decide +kernel) ?_
  refine lr_ic (n := 3) C0 3 (by decide +kernel) rfl ?_
  refine lr_add (k := 3) C0 rfl (by decide +kernel) ?_
  refine lr_ld C0 (by omega) hL (by decide +kernel) ?_
  refine lr_i2l C0 (by decide +kernel) ?_
  refine lr_ldc2 (n := 37) (v := 4294967295) C0 (by decide +kernel) (fk_in11 (List.mem_of_getElem? (i := 185) rfl)) ?_
  refine lr_land C0 (by decide +kernel) ?_
  refine lr_lor C0 (by decide +kernel) ?_
  have e1 := G0.2.2.2.2.2
  refine lr_st (st2 := [.int (xs (i + 1)), .long (fk_lshl (xs (i + 2)).toInt64 32 ||| ((xs (i + 3)).toInt64 &&& 4294967295))].reverse ++ .ref (g.2.1 103) :: [.int r0]) (by rw [e1]; rfl) ?_
  refine lr_call (idx := 43) (r := 103) (as := [.int (xs (i + 1)), .long (fk_lshl (xs (i + 2)).toInt64 32 ||| ((xs (i + 3)).toInt64 &&& 4294967295))]) C0 G0 (by decide +kernel) fk_i295 (fk_in10 (List.mem_of_getElem? (i := 112) rfl)) rfl (Nat.le_of_ble_eq_true rfl) (hx0) rfl (fun x1 σ1 hx1 => ?_)
  obtain ⟨r1, rfl, hr, hx1⟩ := Qi_s hx1
  show LW p l e s m below meth c b B i g σ1 317 [.int r1, .int r0]
  exact lr_eq (off := 201) C0 hr (by decide +kernel) (by decide) (hJ _ hx1)
set_option maxRecDepth 100000 in
theorem law_run {p : Program} {l : Launch} {e : Env} {s : State} {m : MethodId} {below : List Frame} {meth : Method} {c : Code} {b L B i : Nat} {xs : Nat → Int32} {g : fkG} {σ : fkS} {J : fkS → Prop} (hL : L ≤ 3072) (C0 : LC p s m meth c b L B xs) (G0 : Gok s B g) (hi : i + 6 ≤ L) (hO : OPS J σ) (hJ : ∀ σ2, J σ2 → LW p l e s m below meth c b B i g σ2 518 []) : LW p l e s m below meth c b B i g σ 322 [] := by
  refine lr_al (n := 1) (k := 1) C0 (by decide +kernel) rfl ?_
  refine lr_al (n := 0) (k := 0) C0 (by decide +kernel) rfl ?_
  refine lr_il C0 (by decide +kernel) ?_
  refine lr_ic (n := 1) C0 1 (by decide +kernel) rfl ?_
  refine lr_add (k := 1) C0 rfl (by decide +kernel) ?_
  refine lr_ld C0 (by omega) hL (by decide +kernel) ?_
  refine lr_al (n := 0) (k := 0) C0 (by decide +kernel) rfl ?_
  refine lr_il C0 (by decide +kernel) ?_
  refine lr_ic (n := 2) C0 2 (by decide +kernel) rfl ?_
  refine lr_add (k := 2) C0 rfl (by decide +kernel) ?_
  refine lr_ld C0 (by omega) hL (by decide +kernel) ?_
  have e0 := G0.2.2.2.2.1
  refine lr_st (st2 := [.int (xs (i + 1)), .int (xs (i + 2))].reverse ++ .ref (g.2.1 0) :: []) (by rw [e0]; rfl) ?_
  refine lr_call (idx := 44) (r := 0) (as := [.int (xs (i + 1)), .int (xs (i + 2))]) C0 G0 (by decide +kernel) fk_i104 (fk_in5 (List.mem_of_getElem? (i := 89) rfl)) rfl (by decide) (hO.2.2.2.2.2.2.1 (xs (i + 1)) (xs (i + 2))) rfl (fun x0 σ0 hx0 => ?_)
  obtain ⟨r0, rfl, hx0⟩ := Qi_s hx0
  show LW p l e s m below meth c b B i g σ0 336 [.int r0]
  refine lr_al (n := 2) (k := 2) C0 (by decide +kernel) rfl ?_
  refine lr_al (n := 0) (k := 0) C0 (by decide +kernel) rfl ?_
  refine lr_il C0 (by decide +kernel) ?_
  refine lr_ic (n := 1) C0 1 (by decide +kernel) rfl ?_
  refine lr_add (k := 1) C0 rfl (by decide +kernel) ?_
  refine lr_ld C0 (by omega) hL (by decide +kernel) ?_
  refine lr_al (n := 0) (k := 0) C0 (by decide +kernel) rfl ?_
  refine lr_il C0 (by decide +kernel) ?_
  refine lr_ic (n := 2) C0 2 (by decide +kernel) rfl ?_
  refine lr_add (k := 2) C0 rfl (by decide +kernel) ?_
  refine lr_ld C0 (by omega) hL (by decide +kernel) ?_
  have e1 := G0.2.2.2.2.2
  refine lr_st (st2 := [.int (xs (i + 1)), .int (xs (i + 2))].reverse ++ .ref (g.2.1 103) :: [.int r0]) (by rw [e1]; rfl) ?_
  refine lr_call (idx := 47) (r := 103) (as := [.int (xs (i + 1)), .int (xs (i + 2))]) C0 G0 (by decide +kernel) fk_i296 (fk_in10 (List.mem_of_getElem? (i := 116) rfl)) rfl (Nat.le_of_ble_eq_true rfl) (hx0) rfl (fun x1 σ1 hx1 => ?_)
  obtain ⟨r1, rfl, hr, hx1⟩ := Qi_s hx1
  show LW p l e s m below meth c b B i g σ1 350 [.int r1, .int r0]
  exact lr_eq (off := 168) C0 hr (by decide +kernel) (by decide) (hJ _ hx1)
set_option maxRecDepth 100000 in
theorem law_outcome {p : Program} {l : Launch} {e : Env} {s : State} {m : MethodId} {below : List Frame} {meth : Method} {c : Code} {b L B i : Nat} {xs : Nat → Int32} {g : fkG} {σ : fkS} {J : fkS → Prop} (hL : L ≤ 3072) (C0 : LC p s m meth c b L B xs) (G0 : Gok s B g) (hi : i + 6 ≤ L) (hO : OPS J σ) (hJ : ∀ σ2, J σ2 → LW p l e s m below meth c b B i g σ2 518 []) : LW p l e s m below meth c b B i g σ 355 [] := by
  refine lr_al (n := 1) (k := 1) C0 (by decide +kernel) rfl ?_
  refine lr_al (n := 0) (k := 0) C0 (by decide +kernel) rfl ?_
  refine lr_il C0 (by decide +kernel) ?_
  refine lr_ic (n := 1) C0 1 (by decide +kernel) rfl ?_
  refine lr_add (k := 1) C0 rfl (by decide +kernel) ?_
  refine lr_ld C0 (by omega) hL (by decide +kernel) ?_
  have e0 := G0.2.2.2.2.1
  refine lr_st (st2 := [.int (xs (i + 1))].reverse ++ .ref (g.2.1 0) :: []) (by rw [e0]; rfl) ?_
  refine lr_call (idx := 48) (r := 0) (as := [.int (xs (i + 1))]) C0 G0 (by decide +kernel) fk_i138 (fk_in5 (List.mem_of_getElem? (i := 237) rfl)) rfl (by decide) (hO.2.2.2.2.2.2.2.1 (xs (i + 1))) rfl (fun x0 σ0 hx0 => ?_)
  obtain ⟨r0, rfl, hx0⟩ := Qj_s hx0
  show LW p l e s m below meth c b B i g σ0 364 [.long r0]
  refine lr_al (n := 2) (k := 2) C0 (by decide +kernel) rfl ?_
  refine lr_al (n := 0) (k := 0) C0 (by decide +kernel) rfl ?_
  refine lr_il C0 (by decide +kernel) ?_
  refine lr_ic (n := 1) C0 1 (by decide +kernel) rfl ?_
  refine lr_add (k := 1) C0 rfl (by decide +kernel) ?_
  refine lr_ld C0 (by omega) hL (by decide +kernel) ?_
  have e1 := G0.2.2.2.2.2
  refine lr_st (st2 := [.int (xs (i + 1))].reverse ++ .ref (g.2.1 103) :: [.long r0]) (by rw [e1]; rfl) ?_
  refine lr_call (idx := 52) (r := 103) (as := [.int (xs (i + 1))]) C0 G0 (by decide +kernel) fk_i320 (fk_in10 (List.mem_of_getElem? (i := 212) rfl)) rfl (Nat.le_of_ble_eq_true rfl) (hx0) rfl (fun x1 σ1 hx1 => ?_)
  obtain ⟨r1, rfl, hr, hx1⟩ := Qj_s hx1
  show LW p l e s m below meth c b B i g σ1 373 [.long r1, .long r0]
  exact lr_leq (off := 144) C0 hr (by decide +kernel) (by decide +kernel) (by decide) (hJ _ hx1)
set_option maxRecDepth 100000 in
theorem law_global {p : Program} {l : Launch} {e : Env} {s : State} {m : MethodId} {below : List Frame} {meth : Method} {c : Code} {b L B i : Nat} {xs : Nat → Int32} {g : fkG} {σ : fkS} {J : fkS → Prop} (hL : L ≤ 3072) (C0 : LC p s m meth c b L B xs) (G0 : Gok s B g) (hi : i + 6 ≤ L) (hO : OPS J σ) (hJ : ∀ σ2, J σ2 → LW p l e s m below meth c b B i g σ2 518 []) : LW p l e s m below meth c b B i g σ 379 [] := by
  refine lr_al (n := 1) (k := 1) C0 (by decide +kernel) rfl ?_
  refine lr_al (n := 0) (k := 0) C0 (by decide +kernel) rfl ?_
  refine lr_il C0 (by decide +kernel) ?_
  refine lr_ic (n := 1) C0 1 (by decide +kernel) rfl ?_
  refine lr_add (k := 1) C0 rfl (by decide +kernel) ?_
  refine lr_ld C0 (by omega) hL (by decide +kernel) ?_
  have e0 := G0.2.2.2.2.1
  refine lr_st (st2 := [.int (xs (i + 1))].reverse ++ .ref (g.2.1 0) :: []) (by rw [e0]; rfl) ?_
  refine lr_call (idx := 53) (r := 0) (as := [.int (xs (i + 1))]) C0 G0 (by decide +kernel) fk_i139 (fk_in6 (List.mem_of_getElem? (i := 1) rfl)) rfl (by decide) (hO.2.2.2.2.2.2.2.2.1 (xs (i + 1))) rfl (fun x0 σ0 hx0 => ?_)
  obtain ⟨r0, rfl, hx0⟩ := Qj_s hx0
  show LW p l e s m below meth c b B i g σ0 388 [.long r0]
  refine lr_al (n := 2) (k := 2) C0 (by decide +kernel) rfl ?_
  refine lr_al (n := 0) (k := 0) C0 (by decide +kernel) rfl ?_
  refine lr_il C0 (by decide +kernel) ?_
  refine lr_ic (n := 1) C0 1 (by decide +kernel) rfl ?_
  refine lr_add (k := 1) C0 rfl (by decide +kernel) ?_
  refine lr_ld C0 (by omega) hL (by decide +kernel) ?_
  have e1 := G0.2.2.2.2.2
  refine lr_st (st2 := [.int (xs (i + 1))].reverse ++ .ref (g.2.1 103) :: [.long r0]) (by rw [e1]; rfl) ?_
  refine lr_call (idx := 56) (r := 103) (as := [.int (xs (i + 1))]) C0 G0 (by decide +kernel) fk_i321 (fk_in10 (List.mem_of_getElem? (i := 216) rfl)) rfl (Nat.le_of_ble_eq_true rfl) (hx0) rfl (fun x1 σ1 hx1 => ?_)
  obtain ⟨r1, rfl, hr, hx1⟩ := Qj_s hx1
  show LW p l e s m below meth c b B i g σ1 397 [.long r1, .long r0]
  exact lr_leq (off := 120) C0 hr (by decide +kernel) (by decide +kernel) (by decide) (hJ _ hx1)
set_option maxRecDepth 100000 in
theorem law_memory {p : Program} {l : Launch} {e : Env} {s : State} {m : MethodId} {below : List Frame} {meth : Method} {c : Code} {b L B i : Nat} {xs : Nat → Int32} {g : fkG} {σ : fkS} {J : fkS → Prop} (hL : L ≤ 3072) (C0 : LC p s m meth c b L B xs) (G0 : Gok s B g) (hi : i + 6 ≤ L) (hO : OPS J σ) (hJ : ∀ σ2, J σ2 → LW p l e s m below meth c b B i g σ2 518 []) : LW p l e s m below meth c b B i g σ 403 [] := by
  refine lr_al (n := 1) (k := 1) C0 (by decide +kernel) rfl ?_
  refine lr_al (n := 0) (k := 0) C0 (by decide +kernel) rfl ?_
  refine lr_il C0 (by decide +kernel) ?_
  refine lr_ic (n := 1) C0 1 (by decide +kernel) rfl ?_
  refine lr_add (k := 1) C0 rfl (by decide +kernel) ?_
  refine lr_ld C0 (by omega) hL (by decide +kernel) ?_
  have e0 := G0.2.2.2.2.1
  refine lr_st (st2 := [.int (xs (i + 1))].reverse ++ .ref (g.2.1 0) :: []) (by rw [e0]; rfl) ?_
  refine lr_call (idx := 57) (r := 0) (as := [.int (xs (i + 1))]) C0 G0 (by decide +kernel) fk_i140 (fk_in6 (List.mem_of_getElem? (i := 5) rfl)) rfl (by decide) (hO.2.2.2.2.2.2.2.2.2.1 (xs (i + 1))) rfl (fun x0 σ0 hx0 => ?_)
  obtain ⟨r0, rfl, hx0⟩ := Qi_s hx0
  show LW p l e s m below meth c b B i g σ0 412 [.int r0]
  refine lr_al (n := 2) (k := 2) C0 (by decide +kernel) rfl ?_
  refine lr_al (n := 0) (k := 0) C0 (by decide +kernel) rfl ?_
  refine lr_il C0 (by decide +kernel) ?_
  refine lr_ic (n := 1) C0 1 (by decide +kernel) rfl ?_
  refine lr_add (k := 1) C0 rfl (by decide +kernel) ?_
  refine lr_ld C0 (by omega) hL (by decide +kernel) ?_
  have e1 := G0.2.2.2.2.2
  refine lr_st (st2 := [.int (xs (i + 1))].reverse ++ .ref (g.2.1 103) :: [.int r0]) (by rw [e1]; rfl) ?_
  refine lr_call (idx := 60) (r := 103) (as := [.int (xs (i + 1))]) C0 G0 (by decide +kernel) fk_i322 (fk_in10 (List.mem_of_getElem? (i := 220) rfl)) rfl (Nat.le_of_ble_eq_true rfl) (hx0) rfl (fun x1 σ1 hx1 => ?_)
  obtain ⟨r1, rfl, hr, hx1⟩ := Qi_s hx1
  show LW p l e s m below meth c b B i g σ1 421 [.int r1, .int r0]
  exact lr_eq (off := 97) C0 hr (by decide +kernel) (by decide) (hJ _ hx1)
set_option maxRecDepth 100000 in
theorem law_table {p : Program} {l : Launch} {e : Env} {s : State} {m : MethodId} {below : List Frame} {meth : Method} {c : Code} {b L B i : Nat} {xs : Nat → Int32} {g : fkG} {σ : fkS} {J : fkS → Prop} (hL : L ≤ 3072) (C0 : LC p s m meth c b L B xs) (G0 : Gok s B g) (hi : i + 6 ≤ L) (hO : OPS J σ) (hJ : ∀ σ2, J σ2 → LW p l e s m below meth c b B i g σ2 518 []) : LW p l e s m below meth c b B i g σ 426 [] := by
  refine lr_al (n := 1) (k := 1) C0 (by decide +kernel) rfl ?_
  refine lr_al (n := 0) (k := 0) C0 (by decide +kernel) rfl ?_
  refine lr_il C0 (by decide +kernel) ?_
  refine lr_ic (n := 1) C0 1 (by decide +kernel) rfl ?_
  refine lr_add (k := 1) C0 rfl (by decide +kernel) ?_
  refine lr_ld C0 (by omega) hL (by decide +kernel) ?_
  have e0 := G0.2.2.2.2.1
  refine lr_st (st2 := [.int (xs (i + 1))].reverse ++ .ref (g.2.1 0) :: []) (by rw [e0]; rfl) ?_
  refine lr_call (idx := 61) (r := 0) (as := [.int (xs (i + 1))]) C0 G0 (by decide +kernel) fk_i141 (fk_in6 (List.mem_of_getElem? (i := 11) rfl)) rfl (by decide) (hO.2.2.2.2.2.2.2.2.2.2.1 (xs (i + 1))) rfl (fun x0 σ0 hx0 => ?_)
  obtain ⟨r0, rfl, hx0⟩ := Qi_s hx0
  show LW p l e s m below meth c b B i g σ0 435 [.int r0]
  refine lr_al (n := 2) (k := 2) C0 (by decide +kernel) rfl ?_
  refine lr_al (n := 0) (k := 0) C0 (by decide +kernel) rfl ?_
  refine lr_il C0 (by decide +kernel) ?_
  refine lr_ic (n := 1) C0 1 (by decide +kernel) rfl ?_
  refine lr_add (k := 1) C0 rfl (by decide +kernel) ?_
  refine lr_ld C0 (by omega) hL (by decide +kernel) ?_
  have e1 := G0.2.2.2.2.2
  refine lr_st (st2 := [.int (xs (i + 1))].reverse ++ .ref (g.2.1 103) :: [.int r0]) (by rw [e1]; rfl) ?_
  refine lr_call (idx := 64) (r := 103) (as := [.int (xs (i + 1))]) C0 G0 (by decide +kernel) fk_i323 (fk_in10 (List.mem_of_getElem? (i := 225) rfl)) rfl (Nat.le_of_ble_eq_true rfl) (hx0) rfl (fun x1 σ1 hx1 => ?_)
  obtain ⟨r1, rfl, hr, hx1⟩ := Qi_s hx1
  show LW p l e s m below meth c b B i g σ1 444 [.int r1, .int r0]
  exact lr_eq (off := 74) C0 hr (by decide +kernel) (by decide) (hJ _ hx1)
set_option maxRecDepth 100000 in
theorem law_program {p : Program} {l : Launch} {e : Env} {s : State} {m : MethodId} {below : List Frame} {meth : Method} {c : Code} {b L B i : Nat} {xs : Nat → Int32} {g : fkG} {σ : fkS} {J : fkS → Prop} (hL : L ≤ 3072) (C0 : LC p s m meth c b L B xs) (G0 : Gok s B g) (hi : i + 6 ≤ L) (hO : OPS J σ) (hJ : ∀ σ2, J σ2 → LW p l e s m below meth c b B i g σ2 518 []) : LW p l e s m below meth c b B i g σ 449 [] := by
  refine lr_al (n := 1) (k := 1) C0 (by decide +kernel) rfl ?_
  refine lr_al (n := 0) (k := 0) C0 (by decide +kernel) rfl ?_
  refine lr_il C0 (by decide +kernel) ?_
  refine lr_ic (n := 1) C0 1 (by decide +kernel) rfl ?_
  refine lr_add (k := 1) C0 rfl (by decide +kernel) ?_
  refine lr_ld C0 (by omega) hL (by decide +kernel) ?_
  have e0 := G0.2.2.2.2.1
  refine lr_st (st2 := [.int (xs (i + 1))].reverse ++ .ref (g.2.1 0) :: []) (by rw [e0]; rfl) ?_
  refine lr_call (idx := 65) (r := 0) (as := [.int (xs (i + 1))]) C0 G0 (by decide +kernel) fk_i142 (fk_in6 (List.mem_of_getElem? (i := 15) rfl)) rfl (by decide) (hO.2.2.2.2.2.2.2.2.2.2.2.1 (xs (i + 1))) rfl (fun x0 σ0 hx0 => ?_)
  obtain ⟨r0, rfl, hx0⟩ := Qi_s hx0
  show LW p l e s m below meth c b B i g σ0 458 [.int r0]
  refine lr_al (n := 2) (k := 2) C0 (by decide +kernel) rfl ?_
  refine lr_al (n := 0) (k := 0) C0 (by decide +kernel) rfl ?_
  refine lr_il C0 (by decide +kernel) ?_
  refine lr_ic (n := 1) C0 1 (by decide +kernel) rfl ?_
  refine lr_add (k := 1) C0 rfl (by decide +kernel) ?_
  refine lr_ld C0 (by omega) hL (by decide +kernel) ?_
  have e1 := G0.2.2.2.2.2
  refine lr_st (st2 := [.int (xs (i + 1))].reverse ++ .ref (g.2.1 103) :: [.int r0]) (by rw [e1]; rfl) ?_
  refine lr_call (idx := 68) (r := 103) (as := [.int (xs (i + 1))]) C0 G0 (by decide +kernel) fk_i324 (fk_in10 (List.mem_of_getElem? (i := 229) rfl)) rfl (Nat.le_of_ble_eq_true rfl) (hx0) rfl (fun x1 σ1 hx1 => ?_)
  obtain ⟨r1, rfl, hr, hx1⟩ := Qi_s hx1
  show LW p l e s m below meth c b B i g σ1 467 [.int r1, .int r0]
  exact lr_eq (off := 51) C0 hr (by decide +kernel) (by decide) (hJ _ hx1)
set_option maxRecDepth 100000 in
theorem law_call {p : Program} {l : Launch} {e : Env} {s : State} {m : MethodId} {below : List Frame} {meth : Method} {c : Code} {b L B i : Nat} {xs : Nat → Int32} {g : fkG} {σ : fkS} {J : fkS → Prop} (hL : L ≤ 3072) (C0 : LC p s m meth c b L B xs) (G0 : Gok s B g) (hi : i + 6 ≤ L) (hO : OPS J σ) (hJ : ∀ σ2, J σ2 → LW p l e s m below meth c b B i g σ2 518 []) : LW p l e s m below meth c b B i g σ 472 [] := by
  refine lr_al (n := 1) (k := 1) C0 (by decide +kernel) rfl ?_
  refine lr_al (n := 0) (k := 0) C0 (by decide +kernel) rfl ?_
  refine lr_il C0 (by decide +kernel) ?_
  refine lr_ic (n := 1) C0 1 (by decide +kernel) rfl ?_
  refine lr_add (k := 1) C0 rfl (by decide +kernel) ?_
  refine lr_ld C0 (by omega) hL (by decide +kernel) ?_
  have e0 := G0.2.2.2.2.1
  refine lr_st (st2 := [.int (xs (i + 1))].reverse ++ .ref (g.2.1 0) :: []) (by rw [e0]; rfl) ?_
  refine lr_call (idx := 69) (r := 0) (as := [.int (xs (i + 1))]) C0 G0 (by decide +kernel) fk_i223 (fk_in7 (List.mem_of_getElem? (i := 106) rfl)) rfl (by decide) (hO.2.2.2.2.2.2.2.2.2.2.2.2.1 (xs (i + 1))) rfl (fun x0 σ0 hx0 => ?_)
  obtain ⟨r0, rfl, hx0⟩ := Qi_s hx0
  show LW p l e s m below meth c b B i g σ0 481 [.int r0]
  refine lr_al (n := 2) (k := 2) C0 (by decide +kernel) rfl ?_
  refine lr_al (n := 0) (k := 0) C0 (by decide +kernel) rfl ?_
  refine lr_il C0 (by decide +kernel) ?_
  refine lr_ic (n := 1) C0 1 (by decide +kernel) rfl ?_
  refine lr_add (k := 1) C0 rfl (by decide +kernel) ?_
  refine lr_ld C0 (by omega) hL (by decide +kernel) ?_
  have e1 := G0.2.2.2.2.2
  refine lr_st (st2 := [.int (xs (i + 1))].reverse ++ .ref (g.2.1 103) :: [.int r0]) (by rw [e1]; rfl) ?_
  refine lr_call (idx := 72) (r := 103) (as := [.int (xs (i + 1))]) C0 G0 (by decide +kernel) fk_i362 (fk_in11 (List.mem_of_getElem? (i := 161) rfl)) rfl (Nat.le_of_ble_eq_true rfl) (hx0) rfl (fun x1 σ1 hx1 => ?_)
  obtain ⟨r1, rfl, hr, hx1⟩ := Qi_s hx1
  show LW p l e s m below meth c b B i g σ1 490 [.int r1, .int r0]
  exact lr_eq (off := 28) C0 hr (by decide +kernel) (by decide) (hJ _ hx1)
set_option maxRecDepth 100000 in
theorem law_spent {p : Program} {l : Launch} {e : Env} {s : State} {m : MethodId} {below : List Frame} {meth : Method} {c : Code} {b L B i : Nat} {xs : Nat → Int32} {g : fkG} {σ : fkS} {J : fkS → Prop} (hL : L ≤ 3072) (C0 : LC p s m meth c b L B xs) (G0 : Gok s B g) (hi : i + 6 ≤ L) (hO : OPS J σ) (hJ : ∀ σ2, J σ2 → LW p l e s m below meth c b B i g σ2 518 []) : LW p l e s m below meth c b B i g σ 495 [] := by
  refine lr_al (n := 1) (k := 1) C0 (by decide +kernel) rfl ?_
  refine lr_al (n := 0) (k := 0) C0 (by decide +kernel) rfl ?_
  refine lr_il C0 (by decide +kernel) ?_
  refine lr_ic (n := 1) C0 1 (by decide +kernel) rfl ?_
  refine lr_add (k := 1) C0 rfl (by decide +kernel) ?_
  refine lr_ld C0 (by omega) hL (by decide +kernel) ?_
  have e0 := G0.2.2.2.2.1
  refine lr_st (st2 := [.int (xs (i + 1))].reverse ++ .ref (g.2.1 0) :: []) (by rw [e0]; rfl) ?_
  refine lr_call (idx := 73) (r := 0) (as := [.int (xs (i + 1))]) C0 G0 (by decide +kernel) fk_i235 (fk_in7 (List.mem_of_getElem? (i := 157) rfl)) rfl (by decide) (hO.2.2.2.2.2.2.2.2.2.2.2.2.2 (xs (i + 1))) rfl (fun x0 σ0 hx0 => ?_)
  obtain ⟨r0, rfl, hx0⟩ := Qi_s hx0
  show LW p l e s m below meth c b B i g σ0 504 [.int r0]
  refine lr_al (n := 2) (k := 2) C0 (by decide +kernel) rfl ?_
  refine lr_al (n := 0) (k := 0) C0 (by decide +kernel) rfl ?_
  refine lr_il C0 (by decide +kernel) ?_
  refine lr_ic (n := 1) C0 1 (by decide +kernel) rfl ?_
  refine lr_add (k := 1) C0 rfl (by decide +kernel) ?_
  refine lr_ld C0 (by omega) hL (by decide +kernel) ?_
  have e1 := G0.2.2.2.2.2
  refine lr_st (st2 := [.int (xs (i + 1))].reverse ++ .ref (g.2.1 103) :: [.int r0]) (by rw [e1]; rfl) ?_
  refine lr_call (idx := 76) (r := 103) (as := [.int (xs (i + 1))]) C0 G0 (by decide +kernel) fk_i367 (fk_in11 (List.mem_of_getElem? (i := 181) rfl)) rfl (Nat.le_of_ble_eq_true rfl) (hx0) rfl (fun x1 σ1 hx1 => ?_)
  obtain ⟨r1, rfl, hr, hx1⟩ := Qi_s hx1
  show LW p l e s m below meth c b B i g σ1 513 [.int r1, .int r0]
  exact lr_eq (off := 5) C0 hr (by decide +kernel) (by decide) (hJ _ hx1)
