/-! THE LAW'S BEGINNING: the cells that are made -/
set_option maxRecDepth 100000 in
theorem law_cls {args : Array Value} {s : State} (hts : ∀ w ∈ lw_tbl, w.before args s = true) (k : Nat) : ∃ q : ClassId × (Nat → Nat), ∀ r : vw_C, fk_cls[k]? = some r → u_Kn s r.1 r.2.1 r.2.2 q.1 q.2 :=
  match k with
    | 0 => by
      obtain ⟨c0, i0, h0⟩ := u_known (C := RX0) (T := TX0) (N := 9) (n := 9) hts (fk_mem _ layX0) (hts _ (fk_in3 (List.mem_of_getElem? (i := 43) rfl)))
      exact ⟨(c0, i0), fun r hr => by cases hr; exact h0⟩
    | 1 => by
      obtain ⟨c0, i0, h0⟩ := u_known (C := RX1) (T := TX1) (N := 2) (n := 2) hts (fk_mem _ layX1) (hts _ (fk_in2 (List.mem_of_getElem? (i := 25) rfl)))
      exact ⟨(c0, i0), fun r hr => by cases hr; exact h0⟩
    | 2 => by
      obtain ⟨c0, i0, h0⟩ := u_known (C := RX2) (T := TX2) (N := 11) (n := 11) hts (fk_mem _ layX2) (hts _ (fk_in1 (List.mem_of_getElem? (i := 39) rfl)))
      exact ⟨(c0, i0), fun r hr => by cases hr; exact h0⟩
    | 3 => by
      obtain ⟨c0, i0, h0⟩ := u_known (C := RX3) (T := TX3) (N := 11) (n := 11) hts (fk_mem _ layX3) (hts _ (fk_in2 (List.mem_of_getElem? (i := 49) rfl)))
      exact ⟨(c0, i0), fun r hr => by cases hr; exact h0⟩
    | 4 => by
      obtain ⟨c0, i0, h0⟩ := u_known (C := RX4) (T := TX4) (N := 17) (n := 17) hts (fk_mem _ layX4) (hts _ (fk_in2 (List.mem_of_getElem? (i := 90) rfl)))
      exact ⟨(c0, i0), fun r hr => by cases hr; exact h0⟩
    | 5 => by
      obtain ⟨c0, i0, h0⟩ := u_known (C := RX5) (T := TX5) (N := 3) (n := 3) hts (fk_mem _ layX5) (hts _ (fk_in1 (List.mem_of_getElem? (i := 230) rfl)))
      exact ⟨(c0, i0), fun r hr => by cases hr; exact h0⟩
    | 6 => by
      obtain ⟨c0, i0, h0⟩ := u_known (C := RX6) (T := TX6) (N := 20) (n := 20) hts (fk_mem _ layX6) (hts _ (fk_in1 (List.mem_of_getElem? (i := 33) rfl)))
      exact ⟨(c0, i0), fun r hr => by cases hr; exact h0⟩
    | 7 => by
      obtain ⟨c0, i0, h0⟩ := u_known (C := RX7) (T := TX7) (N := 14) (n := 14) hts (fk_mem _ layX7) (hts _ (fk_in2 (List.mem_of_getElem? (i := 234) rfl)))
      exact ⟨(c0, i0), fun r hr => by cases hr; exact h0⟩
    | 8 => by
      obtain ⟨c0, i0, h0⟩ := u_known (C := RX8) (T := TX8) (N := 14) (n := 14) hts (fk_mem _ layX8) (hts _ (fk_in2 (List.mem_of_getElem? (i := 155) rfl)))
      exact ⟨(c0, i0), fun r hr => by cases hr; exact h0⟩
    | 9 => by
      obtain ⟨c0, i0, h0⟩ := u_known (C := RX9) (T := TX9) (N := 14) (n := 14) hts (fk_mem _ layX9) (hts _ (fk_in3 (List.mem_of_getElem? (i := 77) rfl)))
      exact ⟨(c0, i0), fun r hr => by cases hr; exact h0⟩
    | 10 => by
      obtain ⟨c0, i0, h0⟩ := u_known (C := RX10) (T := TX10) (N := 5) (n := 5) hts (fk_mem _ layX10) (hts _ (fk_in1 (List.mem_of_getElem? (i := 236) rfl)))
      exact ⟨(c0, i0), fun r hr => by cases hr; exact h0⟩
    | 11 => by
      obtain ⟨c0, i0, h0⟩ := u_known (C := RX11) (T := TX11) (N := 18) (n := 18) hts (fk_mem _ layX11) (hts _ (fk_in1 (List.mem_of_getElem? (i := 25) rfl)))
      exact ⟨(c0, i0), fun r hr => by cases hr; exact h0⟩
    | 12 => by
      obtain ⟨c0, i0, h0⟩ := u_known (C := RX12) (T := TX12) (N := 143) (n := 143) hts (fk_mem _ layX12) (hts _ (fk_in7 (List.mem_of_getElem? (i := 162) rfl)))
      exact ⟨(c0, i0), fun r hr => by cases hr; exact h0⟩
    | k + 13 => ⟨(0, fun _ => 0), fun r hr => by simp [fk_cls] at hr⟩
abbrev fk_tm (i : Nat) : Term := .string (fk_lq i).1 (fk_lq i).2.1
abbrev fk_tv (i : Nat) : Term := .field (fk_tm i) "java/lang/String" "value" "[B"
def nwL : List Jvm.Cond := flatC (Jvm.Cond.and given_1 narrow_1)
/-- where what is said of a String constant begins -/
def nwP : List Nat := [20, 94, 113, 133, 143, 211, 223, 237, 251, 266, 281, 297, 316, 336, 358, 380, 402, 426]
theorem nwS : (List.range fk_nL).all (fun i => decide (nwL[nwP.getD i 0]? = some (.exactly (fk_tm i) "java/lang/String")) && (decide (nwL[nwP.getD i 0 + 1]? = some (.eq (.field (fk_tm i) "java/lang/String" "coder" "B") (.int 0))) && (decide (nwL[nwP.getD i 0 + 2]? = some (.arrayOf (fk_tv i) .byte)) && (decide (nwL[nwP.getD i 0 + 3]? = some (.eq (.length (fk_tv i)) (.int (Int32.ofNat (fk_ln i))))) &&
  (List.range (fk_ln i)).all (fun j => decide (nwL[nwP.getD i 0 + 4 + j]? = some (.eq (.elem (fk_tv i) (.int (Int32.ofNat j))) (.int ((fk_bt i).getD j 0))))))))) = true := by decide +kernel
theorem law_strs {args : Array Value} {s : State} (hs : ∀ w ∈ nwL, w.before args s = true) {A : Nat → Prop} (hA : ∀ a : Nat, a < s.heap.size → ¬ A a) (i : Nat) : ∃ q : Nat × Nat, i < fk_nL → (fk_tm i).eval args s none [] s = some (.ref q.1) ∧ va_O "java/lang/String" q.1 A s s.heap ∧ va_OF "java/lang/String" "coder" "B" (.int 0) q.1 A s s.heap ∧ va_OF "java/lang/String" "value" "[B" (.ref q.2) q.1 A s s.heap ∧ va_T .byte q.2 (fk_ln i) (fun j => .int ((fk_bt i).getD j 0)) A s s.heap := by
  by_cases hi : i < fk_nL
  · have h := List.all_eq_true.mp nwS i (List.mem_range.mpr hi)
    simp only [Bool.and_eq_true] at h
    obtain ⟨h1, h2, h3, h4, h5⟩ := h
    have m : ∀ {a : Nat} {w : Jvm.Cond}, decide (nwL[a]? = some w) = true → w.before args s = true := fun z => hs _ (List.mem_of_getElem? (of_decide_eq_true z))
    have hln : fk_ln i < 2 ^ 31 := by
      have hq : (List.range fk_nL).all (fun i => decide (fk_ln i < 2 ^ 31)) = true := by decide +kernel
      exact of_decide_eq_true (List.all_eq_true.mp hq i (List.mem_range.mpr hi))
    obtain ⟨t, ht, hT⟩ := va_Tof (f := fun j => .int ((fk_bt i).getD j 0)) (A := A) hln (m h3) (va_eqt (m h4)) (fun j hj => va_eqt (m (List.all_eq_true.mp h5 j (List.mem_range.mpr hj)))) hA
    obtain ⟨a, c, cA, kA, q1, q2, q3, q4, q5, q6, -⟩ := Cond.exactly_spec (args := args) (first := s) (o := none) (s := s) (idx := []) (t := fk_tm i) (cls := "java/lang/String") (m h1)
    exact ⟨(a, t), fun _ => ⟨q1, va_Oof (m h1) q1 hA, vk_OFof q1 (va_eqt (m h2)) hA, vk_OFof q1 ht hA, hT⟩⟩
  · exact ⟨(0, 0), fun h => absurd h hi⟩
theorem fk_nv_of {v : Value} (h : v.isRef = true) : ∃ n, v = fk_nv n := by
  cases v <;> first | exact ⟨0, rfl⟩ | exact ⟨_ + 1, rfl⟩ | cases h
set_option maxRecDepth 100000 in
theorem law_facts {p : Program} {s : State} {m : MethodId} {meth : Method} {c : Code} {b L : Nat} {xs : Nat → Int32} (C0 : lw_At p s m meth c b L xs) : ∃ g : fkG, va_K g.1 fk_cls (fk_tys g) s ∧ (fk_cst g (fun q => s.heap.size ≤ q) s s.heap ∧ fk_R g s) ∧ ∀ i, i < 1000 → g.2.1 i = s.heap.size + i := by
  obtain ⟨hx, hb, hr, hml, hown, hts, hX, hbl, hlocks, hgv⟩ := C0
  obtain ⟨f, hf⟩ := Classical.axiomOfChoice (law_cls hts)
  obtain ⟨c0, k0, m0, a0, b0, d0⟩ := Cond.arrayClass_spec (hts (.arrayClass .int) (fk_in1 (List.mem_of_getElem? (i := 109) rfl)))
  obtain ⟨c1, k1, m1, a1, b1, d1⟩ := Cond.arrayClass_spec (hts (.arrayClass .long) (fk_in1 (List.mem_of_getElem? (i := 108) rfl)))
  obtain ⟨c2, k2, m2, a2, b2, d2⟩ := Cond.arrayClass_spec (hts (.arrayClass .byte) (fk_in1 (List.mem_of_getElem? (i := 107) rfl)))
  obtain ⟨c3, k3, m3, a3, b3, d3⟩ := Cond.arrayClass_spec (hts (.arrayClass .boolean) (fk_in2 (List.mem_of_getElem? (i := 88) rfl)))
  have hs := flat_of_before _ hgv
  obtain ⟨t, ht, hT⟩ := va_Tof (s := s) (args := #[Value.ref b]) (tm := .static "FoldForge$ModuleReader" "HEADER" "[I") (ty := .int) (N := 8) (f := fun j => .int (fk_hd j)) (A := fun q => s.heap.size ≤ q) (by decide) (hs _ (by decide +kernel)) (va_eqt (hs _ (by decide +kernel))) (fun j hj => by
    match j, hj with
    | 0, _ => exact va_eqt (z := 0) (hs _ (by decide +kernel))
    | 1, _ => exact va_eqt (z := 97) (hs _ (by decide +kernel))
    | 2, _ => exact va_eqt (z := 115) (hs _ (by decide +kernel))
    | 3, _ => exact va_eqt (z := 109) (hs _ (by decide +kernel))
    | 4, _ => exact va_eqt (z := 1) (hs _ (by decide +kernel))
    | 5, _ => exact va_eqt (z := 0) (hs _ (by decide +kernel))
    | 6, _ => exact va_eqt (z := 0) (hs _ (by decide +kernel))
    | 7, _ => exact va_eqt (z := 0) (hs _ (by decide +kernel))
    | j + 8, hj => omega) (fun a ha => Nat.not_le.mpr ha)
  have hZ := va_Zof (A := fun q => s.heap.size ≤ q) (hts (.laysStatic "FoldForge$ModuleReader" "HEADER" "[I") (fk_in3 (List.mem_of_getElem? (i := 216) rfl))) (hts (.initialized "FoldForge$ModuleReader") (fk_in1 (List.mem_of_getElem? (i := 4) rfl))) ht (fun a ha => Nat.not_le.mpr ha)
  have hA : ∀ a : Nat, a < s.heap.size → ¬ s.heap.size ≤ a := fun a ha => Nat.not_le.mpr ha
  have hC := va_Zof (A := fun q => s.heap.size ≤ q) (hts (.laysStatic "java/lang/String" "COMPACT_STRINGS" "Z") (fk_in6 (List.mem_of_getElem? (i := 65) rfl))) (hts (.initialized "java/lang/String") (fk_in1 (List.mem_of_getElem? (i := 19) rfl))) (va_eqt (z := 1) (hs _ (by decide +kernel))) hA
  have hF0 : (Jvm.Cond.isRef (.static "jdk/internal/util/Preconditions" "SIOOBE_FORMATTER" "Ljava/util/function/BiFunction;")).before #[Value.ref b] s = true := hs _ (by decide +kernel)
  obtain ⟨v, hv, hvr⟩ := Cond.isRef_spec hF0
  obtain ⟨nF, rfl⟩ := fk_nv_of hvr
  have hF := va_Zof (A := fun q => s.heap.size ≤ q) (hts (.laysStatic "jdk/internal/util/Preconditions" "SIOOBE_FORMATTER" "Ljava/util/function/BiFunction;") (fk_in6 (List.mem_of_getElem? (i := 85) rfl))) (hts (.initialized "jdk/internal/util/Preconditions") (fk_in1 (List.mem_of_getElem? (i := 21) rfl))) hv hA
  obtain ⟨ad, had⟩ := Classical.axiomOfChoice (law_strs (s := s) hs hA)
  obtain ⟨G, hG0, hG1, hG2, hG3, hG⟩ : ∃ G : Nat → Nat, G 1000 = t ∧ G 1001 = nF ∧ (∀ i, i < fk_nL → G (2000 + i) = (ad i).1) ∧ (∀ i, i < fk_nL → G (3000 + i) = (ad i).2) ∧ ∀ i, i < 1000 → G i = s.heap.size + i := by
    refine ⟨fun i => if i < 1000 then s.heap.size + i else if i = 1000 then t else if i = 1001 then nF else if i < 3000 then (ad (i - 2000)).1 else (ad (i - 3000)).2, ?_, ?_, fun i hi => ?_, fun i hi => ?_, fun i hi => if_pos hi⟩
    · show (if 1000 < 1000 then _ else _) = _
      rw [if_neg (by omega), if_pos rfl]
    · show (if 1001 < 1000 then _ else _) = _
      rw [if_neg (by omega), if_neg (by omega), if_pos rfl]
    · show (if 2000 + i < 1000 then _ else _) = _
      have hi : i < 18 := hi
      rw [if_neg (by omega), if_neg (by omega), if_neg (by omega), if_pos (by omega), Nat.add_sub_cancel_left]
    · show (if 3000 + i < 1000 then _ else _) = _
      rw [if_neg (by omega), if_neg (by omega), if_neg (by omega), if_neg (by omega), Nat.add_sub_cancel_left]
  refine ⟨((fun k => (f k).1, fun k => (f k).2), G, fun k => match k with | 0 => c0 | 1 => c1 | 2 => c2 | _ => c3), ⟨fun c q h => hf c q h, fun k q h => ?_⟩, ⟨⟨?_, ?_, hC, ?_, fun i hi => ?_⟩, fun i q hq => ?_⟩, hG⟩
  rotate_left
  · show va_Z _ _ _ (.ref (G 1000)) _ _ _
    rw [hG0]; exact hZ
  · show va_T _ (G 1000) _ _ _ _ _
    rw [hG0]; exact hT
  · show va_Z _ _ _ (fk_nv (G 1001)) _ _ _
    rw [hG1]; exact hF
  · obtain ⟨-, z1, z2, z3, z4⟩ := had i hi
    show va_O _ (G (2000 + i)) _ _ _ ∧ va_OF _ _ _ _ (G (2000 + i)) _ _ _ ∧ va_OF _ _ _ (.ref (G (3000 + i))) (G (2000 + i)) _ _ _ ∧ va_T _ (G (3000 + i)) _ _ _ _ _
    rw [hG2 i hi, hG3 i hi]
    exact ⟨z1, z2, z3, z4⟩
  · have hi : i < fk_nL := (List.getElem?_eq_some_iff.mp hq).1
    have e : fk_lq i = q := by unfold fk_lq; rw [List.getD_eq_getElem?_getD, hq]; rfl
    have z := (had i hi).1
    show vk_R _ _ _ (G (2000 + i)) _
    rw [hG2 i hi]
    unfold fk_tm at z
    rw [e] at z
    exact vk_R.of (hts _ (fk_lits_in q (List.mem_of_getElem? hq))) z
  match k, h with
  | 0, h => cases h; exact ⟨fun n z => ⟨fun k h => (by cases h), k0, b0, m0, d0⟩, a0⟩
  | 1, h => cases h; exact ⟨fun n z => ⟨fun k h => (by cases h), k1, b1, m1, d1⟩, a1⟩
  | 2, h => cases h; exact ⟨fun n z => ⟨fun k h => (by cases h), k2, b2, m2, d2⟩, a2⟩
  | 3, h => cases h; exact ⟨fun n z => ⟨fun k h => (by cases h), k3, b3, m3, d3⟩, a3⟩
  | k + 4, h => simp [fk_tys] at h
section LAWM
variable {p : Program} {l : Launch} {e : Env} {s : State} {m : MethodId} {below : List Frame} {meth : Method} {c : Code} {b L : Nat} {xs : Nat → Int32} {g : fkG} {H : Heap} {locs : List Loc} {Q : State → Prop} {pc : Nat} {lsM : Array Slot} {lc : List kcE} {cells slots : Nat}
/-- new, dup, <init> in the law's body -/
theorem law_mk {i1 i2 j cj d : Nat} {q : vw_C} {f2 : List Value} {a2 : List kcE} (C0 : lw_At p s m meth c b L xs) (hK : va_K g.1 fk_cls (fk_tys g) s) (hl : lsM.size = 4) (hP : va_P g.1 fk_cls (kc_w g s.heap.size lc) H) (hz : H.size = s.heap.size + lc.length) (hS : va_S (fun q => s.heap.size ≤ q) s.heap H locs)
    (hd1 : decode code pc = .ok (.new i1, 3)) (hd2 : decode code (pc + 3) = .ok (.dup, 1)) (hd3 : decode code (pc + 4) = .ok (.invokespecial i2, 3)) (hq : fk_cls[cj]? = some q) (hw1 : Jvm.Cond.classLink R_law i1 q.1 ∈ lw_tbl) (hw2 : Jvm.Cond.instantiable q.1 q.2.2 ∈ lw_tbl) (hw3 : Jvm.Cond.initialized q.1 ∈ lw_tbl)
    (hj : fk_mok j) (hjn : (fk_M j).1.name = "<init>") (hret : (fk_M j).2.2.2 = none) (hw4 : Jvm.Cond.methodLink R_law i2 (fk_M j).1 ∈ lw_tbl) (hw5 : Jvm.Cond.instanceMethod (fk_M j).1 ∈ lw_tbl) (hp : fk_np j 0) (hm : (fk_M j).2.2.1 ≤ 21) (hdd : d ≤ 2000) (hcl : Kt d j cj f2 a2)
    (hcc : cells + 1 + a2.length ≤ 600000) (hss : slots + q.2.2 + kc_sm a2 ≤ 7302250)
    (kk : ∀ (H1 : Heap) (locs1 : List Loc), va_P g.1 fk_cls (kc_w g s.heap.size (lc ++ (Sum.inr (cj, f2) :: a2).map (kc_sh lc.length))) H1 → H1.size = s.heap.size + (lc.length + 1 + a2.length) → va_S (fun q => s.heap.size ≤ q) s.heap H1 locs1 → W p l e room_1 s m #[Value.ref b] below meth c H1 locs1 (cells + 1 + a2.length) (slots + q.2.2 + kc_sm a2) Q (F0 m (pc + 7) lsM [.ref (s.heap.size + lc.length)])) :
    W p l e room_1 s m #[Value.ref b] below meth c H locs cells slots Q (F0 m pc lsM []) := by
  obtain ⟨hx, hb, hr, hml, hown, hts, hX, hbl, hlocks, hgv⟩ := id C0
  obtain ⟨f1, f2', f3⟩ := fk_cfacts hq
  obtain ⟨hci, hlen⟩ := fk_tgl hq
  have hKn := hK.1 cj _ hq
  have hN : fk_N s := fk_N_of hts
  have hW : ∀ w ∈ fk_W, w.before #[Value.ref b] s = true := fun w hw => hts w (List.mem_filter.mp hw).1
  refine W.newcK hx hb hown (hts _ hw1) (hts _ hw2) (hts _ hw3) rfl hd1 (show cells + 1 ≤ 600000 by omega) (show slots + q.2.2 ≤ 7302250 by omega) hKn.2.1 hz fun H1 kC hkC e1 z1 o1 => ?_
  refine lv_dup hx hb hd2 rfl ?_
  have hPold : va_P g.1 fk_cls (kc_w g s.heap.size lc) H1 := hP.kept (fun j q hq => by
    have := (hP j q hq).lt
    exact o1 q.1 (by omega))
  have hPnew : va_P g.1 fk_cls (kc_w g (s.heap.size + lc.length) [.inr (cj, kc_df cj)]) H1 := by
    intro i q0 hq0
    obtain ⟨e0, he0, rfl⟩ := kc_w_get hq0
    have hi0 : i = 0 := by
      have := (List.getElem?_eq_some_iff.mp he0).1
      simp at this
      exact this
    subst hi0
    simp at he0
    subst he0
    refine ⟨_, hq, (u_born (fk_ty cj) hW (fun w h => fk_inW (f1 w h) (fk_lay_good w h)) hKn hkC e1 f2').to fun j hj => ?_⟩
    obtain ⟨t, ht⟩ : ∃ t, (fk_tg.getD cj [])[j]? = some t := ⟨_, List.getElem?_eq_getElem (by rw [hlen]; exact hj)⟩
    exact kc_born hci ht
  have hS1 : va_S (fun q => s.heap.size ≤ q) s.heap H1 locs := ⟨Nat.le_trans hS.1 (by omega), fun q q1 q2 => (o1 q (by omega)).trans (hS.2.1 q q1 q2), hS.2.2⟩
  have cb : CallB room_1 s #[Value.ref b] R_law i2 (fk_M j).1 (fk_M j).2.1 (fk_M j).2.2.1 none (fk_wm j) (kc_rm d a2.length (kc_sm a2)) a2.length (kc_sm a2) 0 :=
    callB_of (ws' := fk_W) 0 hW (fk_goodIn (fk_wm_in hj.1)) (by unfold fk_wm fk_cw; rw [hret]) rfl rfl (hts _ hj.2.1) (hts _ hw4) ⟨hj.2.2.1.1, hj.2.2.1.2, hp⟩ ⟨by show d + 1 ≤ 2048; omega, by show 8 + ((fk_M j).2.2.1 + 11) + 40 * d ≤ 84000; omega⟩
  have hrun := va_runI (b := s.heap.size + lc.length) (As := []) (rest := [Value.ref (s.heap.size + lc.length)]) (g := F0 m (pc + 3 + 1) lsM [.ref (s.heap.size + lc.length), .ref (s.heap.size + lc.length)]) (H := H1) (cells := cells + 1) (slots := slots + q.2.2) (locs := locs) (meth := meth) (below := below) (e := e) ⟨hx, hb, hml, hown, hW⟩ (hcl g l (s.heap.size + lc.length)) ⟨cb, hjn, hts _ hw5⟩
    ⟨by
      rintro a U gg mk ⟨q1, q2, q3, q4, q5⟩
      exact ⟨q1, q2, q3, va_K.moved (u := U) (U := U.calling gg mk a) (Vm.Alike.refl U.vm) q4, fk_N.same (u := U) (U := U.calling gg mk a) rfl q5⟩, fun U hU hWm => ⟨rfl, by rw [hU, z1], by rw [hU]; exact hPnew, va_K.moved hWm.alike hK, fk_N.warm hWm hN⟩⟩ rfl rfl hl rfl (lv_room (Nat.le_of_ble_eq_true rfl)) hd3 ⟨hcc, hss⟩
  intro T hT Xs
  obtain ⟨v, st₀, t, T', L2, e0, X', hL, e1', e2, ⟨hv, hts', htp, htk⟩, stp⟩ := hrun T hT Xs
  have hv' : v = none := Outcome.returned.inj hv
  subst hv'
  rw [e0] at htk
  have hP1 : va_P g.1 fk_cls (kc_w g s.heap.size (lc ++ (Sum.inr (cj, f2) :: a2).map (kc_sh lc.length))) T'.heap := by
    rw [kc_w_app]
    refine (hPold.kept (fun i q hq => ?_)).app (by rw [e1']; exact htp)
    obtain ⟨e3, he3, rfl⟩ := kc_w_get hq
    have := (List.getElem?_eq_some_iff.mp he3).1
    rw [e1']
    exact htk _ (by omega)
  have hS2 : va_S (fun q => s.heap.size ≤ q) s.heap T'.heap (locs ++ L2) := by
    refine ⟨Nat.le_trans hS1.1 (by rw [e1', hts', z1, List.length_cons]; omega), fun q q1 q2 => ?_, fun q hq => ?_⟩
    · rw [e1', htk q (by omega)]
      exact hS1.2.1 q q1 q2
    · rcases List.mem_append.mp hq with h3 | h3
      · exact hS1.2.2 q h3
      · have h5 : s.heap.size + lc.length ≤ q.base := hL q h3
        show s.heap.size ≤ q.base
        omega
  obtain ⟨t2, a1, b1⟩ := kk T'.heap (locs ++ L2) hP1 (by rw [e1', hts', List.length_cons]; omega) hS2 T' rfl X'
  exact ⟨t2, stp t2 a1, b1⟩
end LAWM
/-! the state behind the two constructors -/
def fk_all : List kcE := ([] ++ (Sum.inr (11, kf_11) :: ka_11).map (kc_sh ([] : List kcE).length)) ++ (Sum.inr (12, kf_12) :: ka_12).map (kc_sh ([] ++ (Sum.inr (11, kf_11) :: ka_11).map (kc_sh ([] : List kcE).length) : List kcE).length)
def fk_f0 (k j : Nat) : Value := match fk_all[k]? with
  | some (.inr (_, fs)) => fs.getD j .null
  | _ => .null
def kc_vi : Value → Int32
  | .int v => v
  | _ => 0
def kc_vl : Value → Int64
  | .long v => v
  | _ => 0
def kc_vr : Value → Nat
  | .ref r => r + 1
  | _ => 0
def fk_s0 : fkS := (fun k j => kc_vi (fk_f0 k j), fun k j => kc_vl (fk_f0 k j), fun k j => kc_vr (fk_f0 k j))
def kc_okF (k j t : Nat) (v : Value) : Bool := match t, v with
  | 0, .int _ => true
  | 1, .int _ => true
  | 2, .int _ => true
  | 3, .long _ => true
  | 4, .ref r => Nat.beq (fk_cr k j) r && Nat.blt r 1000
  | 5, .ref r => Nat.blt r 1000
  | 5, .null => true
  | _, _ => false
def kc_okE (k : Nat) (e : kcE) (sh : Nat × Nat) : Bool := match e with
  | .inl (t, n) => Nat.beq sh.1 t && Nat.blt t 4 && Nat.beq sh.2 n
  | .inr (ci, fs) => Nat.beq sh.1 (ci + 4) && Nat.beq fs.length (fk_tg.getD ci []).length && ((fk_tg.getD ci []).mapIdx (fun j t => kc_okF k j t (fs.getD j (.float 0)))).all id
set_option maxRecDepth 100000 in
theorem kc_okA : (List.range fk_nC).all (fun k => match fk_all[k]?, fk_sh[k]? with
  | some e, some sh => kc_okE k e sh
  | _, _ => false) = true := by decide +kernel
set_option maxRecDepth 100000 in
theorem fk_all_len : fk_all.length = fk_nC := by decide +kernel
theorem fk_s0_en {g : fkG} {B k : Nat} {e : kcE} {sh : Nat × Nat} (hg : ∀ i, i < 1000 → g.2.1 i = B + i) (he : fk_all[k]? = some e) (hok : kc_okE k e sh = true) : kc_se g B e = fk_en (fk_s0.1 k) (fk_s0.2.1 k) (fk_s0.2.2 k) g k sh := by
  obtain ⟨s1, s2⟩ := sh
  rcases e with ⟨t, n⟩ | ⟨ci, fs⟩
  · have hf : ∀ j, fk_f0 k j = .null := by
      intro j
      unfold fk_f0
      rw [he]
    have h1 : fk_s0.1 k = fun _ => 0 := by
      funext j
      show kc_vi (fk_f0 k j) = _
      rw [hf]
      rfl
    have h2 : fk_s0.2.1 k = fun _ => 0 := by
      funext j
      show kc_vl (fk_f0 k j) = _
      rw [hf]
      rfl
    rw [h1, h2]
    unfold kc_okE at hok
    obtain ⟨o1, o2⟩ := fk_and hok
    obtain ⟨o3, o4⟩ := fk_and o1
    have e1 : s1 = t := Nat.eq_of_beq_eq_true o3
    have e2 : s2 = n := Nat.eq_of_beq_eq_true o2
    have e3 : t < 4 := Nat.le_of_ble_eq_true o4
    subst e1
    subst e2
    match s1, e3 with
    | 0, _ => rfl
    | 1, _ => rfl
    | 2, _ => rfl
    | 3, _ => rfl
    | s + 4, h => omega
  · unfold kc_okE at hok
    obtain ⟨o1, o2⟩ := fk_and hok
    obtain ⟨o3, o4⟩ := fk_and o1
    have e1 : s1 = ci + 4 := Nat.eq_of_beq_eq_true o3
    have e2 : fs.length = (fk_tg.getD ci []).length := Nat.eq_of_beq_eq_true o4
    subst e1
    rw [fk_en_obj]
    show Sum.inr (ci, fs.map (kc_tr B)) = Sum.inr (ci, _)
    congr 2
    apply List.ext_getElem?
    intro j
    cases ht : (fk_tg.getD ci [])[j]? with
    | none =>
      have hj : (fk_tg.getD ci []).length ≤ j := List.getElem?_eq_none_iff.mp ht
      rw [List.getElem?_map, List.getElem?_eq_none (by omega)]
      simp only [fk_fs, List.getElem?_mapIdx, ht]
      rfl
    | some t =>
      have hj : j < (fk_tg.getD ci []).length := (List.getElem?_eq_some_iff.mp ht).1
      rw [fk_fs_get ht, List.getElem?_map]
      obtain ⟨v, hv⟩ : ∃ v, fs[j]? = some v := ⟨_, List.getElem?_eq_getElem (by omega)⟩
      rw [hv]
      have hF := List.all_eq_true.mp o2 _ (List.mem_of_getElem? (i := j) (by rw [List.getElem?_mapIdx, ht]; rfl))
      rw [List.getD_eq_getElem?_getD, hv] at hF
      simp only [id, Option.getD_some] at hF
      have h0 : fk_f0 k j = v := by
        unfold fk_f0
        rw [he]
        show fs.getD j .null = v
        rw [List.getD_eq_getElem?_getD, hv]
        rfl
      have z1 : fk_s0.1 k j = kc_vi v := by show kc_vi (fk_f0 k j) = _; rw [h0]
      have z2 : fk_s0.2.1 k j = kc_vl v := by show kc_vl (fk_f0 k j) = _; rw [h0]
      have z3 : fk_s0.2.2 k j = kc_vr v := by show kc_vr (fk_f0 k j) = _; rw [h0]
      simp only [Option.map_some]
      congr 1
      unfold kc_okF at hF
      unfold fk_fv
      rw [z1, z2, z3]
      split at hF
      · rfl
      · rfl
      · rfl
      · rfl
      · obtain ⟨q1, q2⟩ := fk_and hF
        have q3 := Nat.eq_of_beq_eq_true q1
        have q4 : _ < 1000 := Nat.le_of_ble_eq_true q2
        show Value.ref (B + _) = Value.ref (g.2.1 (fk_cr k j))
        rw [q3, hg _ q4]
      · have q4 : _ < 1000 := Nat.le_of_ble_eq_true hF
        show Value.ref (B + _) = Value.ref (g.2.1 _)
        rw [hg _ q4]
      · rfl
      · cases hF
theorem fk_s0_ws {g : fkG} {B : Nat} (hg : ∀ i, i < 1000 → g.2.1 i = B + i) : kc_w g B fk_all = fk_ws fk_s0 g := by
  apply List.ext_getElem?
  intro k
  by_cases hk : k < fk_nC
  · have h1 := List.all_eq_true.mp kc_okA k (List.mem_range.mpr hk)
    simp only [kc_w, fk_ws, List.getElem?_mapIdx]
    split at h1
    next e sh he hs =>
      rw [he, hs]
      simp only [Option.map_some]
      have : k < 1000 := Nat.lt_of_lt_of_le hk (Nat.le_of_ble_eq_true rfl)
      rw [hg k this, fk_s0_en hg he h1]
    next => cases h1
  · rw [List.getElem?_eq_none (by simp only [kc_w, List.length_mapIdx, fk_all_len]; omega), List.getElem?_eq_none (by simp only [fk_ws, List.length_mapIdx, fk_nC_len]; omega)]
set_option maxRecDepth 100000 in
set_option maxHeartbeats 4000000 in
/-- the law, from its entry, for every invariant that holds behind the constructors -/
theorem law_begin {p : Program} {e : Env} {s : State} {m : MethodId} {below : List Frame} {meth : Method} {c : Code} (l : Launch) {b L : Nat} {xs : Nat → Int32} (hL : L ≤ 3072) (C0 : lw_At p s m meth c b L xs) (Inv J : Nat → fkS → Prop) (h0 : Inv 0 fk_s0) (hops : ∀ i σ, i + 6 ≤ L → Inv i σ → OPS (J (i + 6)) σ ∧ J (i + 6) σ)
    (hJ : ∀ i g σ, Gok s s.heap.size g → J i σ → ∃ g2 σ2, Gok s s.heap.size g2 ∧ Inv i σ2 ∧ ∀ H, va_P g.1 fk_cls (fk_ws σ g) H → va_P g2.1 fk_cls (fk_ws σ2 g2) H) : W p l e room_1 s m #[Value.ref b] below meth c s.heap [] 0 0 (lw_Z below #[Value.ref b] s) (entryFrame m ([Value.ref b] : List Value).toArray 4) := by
  obtain ⟨hx, hb, hr, hml, hown, hts, hX, hbl, hlocks, hgv⟩ := id C0
  obtain ⟨g, hK, hcst, hg⟩ := law_facts C0
  have hl := lv_entry ([.ref b]) (n := 4) (Nat.le_of_ble_eq_true rfl)
  rw [lg_entry_eq]
  generalize (lg_sl ([.ref b]) ++ List.replicate (4 - (lg_sl ([.ref b])).length) Slot.unset).toArray = ls at hl ⊢
  have hl : lv_has ls 4 [(0, .ref b)] := hl
  have hP : va_P g.1 fk_cls (kc_w g s.heap.size []) s.heap := fun k q h => by simp [kc_w] at h
  refine law_mk (lc := []) (f2 := kf_11) (a2 := ka_11) (d := 1003) C0 hK hl.1 hP rfl va_S.rf (show decode code 0 = .ok (.new 7, 3) by decide +kernel) (show decode code 3 = .ok (.dup, 1) by decide +kernel) (show decode code 4 = .ok (.invokespecial 9, 3) by decide +kernel) (cj := 11) rfl (fk_in1 (List.mem_of_getElem? (i := 24) rfl)) (fk_in1 (List.mem_of_getElem? (i := 25) rfl)) (fk_in1 (List.mem_of_getElem? (i := 1) rfl)) fk_q0 rfl rfl (fk_in1 (List.mem_of_getElem? (i := 26) rfl)) (fk_in1 (List.mem_of_getElem? (i := 27) rfl)) (by decide +kernel) (by decide +kernel) (by decide) (kt_11 (d := 1000)) (by decide +kernel) (by decide +kernel) (fun H1 locs1 hP1 hz1 hS1 => ?_)
  refine lv_astore_n (lv' := [(1, .ref s.heap.size), (0, .ref b)]) hx hb (show decode code 7 = .ok (.astore_n 1, 1) by decide +kernel) rfl hl (by decide) rfl (fun ls hl => ?_)
  refine law_mk (lc := [] ++ (Sum.inr (11, kf_11) :: ka_11).map (kc_sh ([] : List kcE).length)) (f2 := kf_12) (a2 := ka_12) (d := 1001) C0 hK hl.1 hP1 (by rw [hz1]; rfl) hS1 (show decode code 8 = .ok (.new 10, 3) by decide +kernel) (show decode code 11 = .ok (.dup, 1) by decide +kernel) (show decode code 12 = .ok (.invokespecial 12, 3) by decide +kernel) (cj := 12) rfl (fk_in7 (List.mem_of_getElem? (i := 161) rfl)) (fk_in7 (List.mem_of_getElem? (i := 162) rfl)) (fk_in1 (List.mem_of_getElem? (i := 13) rfl)) fk_q236 rfl rfl (fk_in7 (List.mem_of_getElem? (i := 163) rfl)) (fk_in7 (List.mem_of_getElem? (i := 164) rfl)) (by decide +kernel) (by decide +kernel) (by decide) (kt_12 (d := 1000)) (by decide +kernel) (by decide +kernel) (fun H2 locs2 hP2 hz2 hS2 => ?_)
  refine lv_astore_n (lv' := [(2, .ref (s.heap.size + 103)), (1, .ref s.heap.size), (0, .ref b)]) hx hb (show decode code 15 = .ok (.astore_n 2, 1) by decide +kernel) rfl hl (by decide) rfl (fun ls hl => ?_)
  refine lv_iconst (v := 0) hx hb (show decode code 16 = .ok (.iconst 0, 1) by decide +kernel) (by decide) ?_
  refine lv_istore_n (lv' := [(3, .int 0), (2, .ref (s.heap.size + 103)), (1, .ref s.heap.size), (0, .ref b)]) hx hb (show decode code 17 = .ok (.istore_n 3, 1) by decide +kernel) rfl hl (by decide) rfl (fun ls hl => ?_)
  refine W.widen (k := 191) (n := LSL) (by decide +kernel) (by decide +kernel) ?_
  have hgt : ∀ i, i < fk_nC → i < 1000 := fun i hi => Nat.lt_of_lt_of_le hi (Nat.le_of_ble_eq_true rfl)
  have G0 : Gok s s.heap.size g := by
    refine ⟨hK, hcst, fun i j hi hj hij => ?_, fun i hi => ?_, ?_, ?_⟩
    · rw [hg i (hgt i hi), hg j (hgt j hj)] at hij
      omega
    · rw [hg i (hgt i hi)]
      omega
    · rw [hg 0 (by omega)]
      rfl
    · exact hg 103 (by omega)
  have hP3 : va_P g.1 fk_cls (fk_ws fk_s0 g) H2 := by
    rw [← fk_s0_ws hg]
    exact hP2
  exact law_loop hL ⟨C0, rfl⟩ Inv J hops hJ (L + 7) 0 g fk_s0 (by omega) (by omega) G0 h0 H2 locs2 ls hP3 hS2 (lv_sub hl [3, 2, 1, 0] rfl)
