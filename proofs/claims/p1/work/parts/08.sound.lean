/-! ONE STEP IS SOUND, so is a run of steps -/
theorem fk_mem_of {w : Jvm.Cond} {i : Nat} (h : decide (lw_tbl[i]? = some w) = true) : w ∈ lw_tbl := List.mem_of_getElem? (of_decide_eq_true h)
theorem fk_jI {j ci n : Nat} (h : decide ((j, ci, n) ∈ fk_Il) = true) : fk_I (j, ci, n) := fk_Il_ok _ (of_decide_eq_true h)
theorem fk_jS {j n : Nat} (h : decide ((j, n) ∈ fk_Sl) = true) : fk_S (j, n) := fk_Sl_ok _ (of_decide_eq_true h)
theorem fk_natv : Jvm.Cond.native arraycopyName ∈ lw_tbl ∧ Jvm.Cond.static arraycopyName ∈ lw_tbl ∧ Jvm.Cond.initialized "java/lang/System" ∈ lw_tbl := ⟨fk_in3 (List.mem_of_getElem? (i := 207) rfl), fk_in3 (List.mem_of_getElem? (i := 206) rfl), fk_in1 (List.mem_of_getElem? (i := 14) rfl)⟩
theorem fk_maxw : Jvm.Cond.static Lib.Math.max.name ∈ lw_tbl ∧ Jvm.Cond.initialized "java/lang/Math" ∈ lw_tbl ∧ Jvm.Cond.code Lib.Math.max.name Lib.Math.max.code 2 (some .int) ∈ lw_tbl := ⟨fk_in4 (List.mem_of_getElem? (i := 86) rfl), fk_in1 (List.mem_of_getElem? (i := 15) rfl), fk_in4 (List.mem_of_getElem? (i := 87) rfl)⟩
theorem fk_minw : Jvm.Cond.static Lib.Math.min.name ∈ lw_tbl ∧ Jvm.Cond.initialized "java/lang/Math" ∈ lw_tbl ∧ Jvm.Cond.code Lib.Math.min.name Lib.Math.min.code 2 (some .int) ∈ lw_tbl := ⟨fk_in3 (List.mem_of_getElem? (i := 213) rfl), fk_in1 (List.mem_of_getElem? (i := 15) rfl), fk_in3 (List.mem_of_getElem? (i := 214) rfl)⟩
theorem fk_lminw : Jvm.Cond.static Lib.MathLoose.min_long.x ∈ lw_tbl ∧ Jvm.Cond.initialized "java/lang/Math" ∈ lw_tbl ∧ Jvm.Cond.code Lib.MathLoose.min_long.x Lib.MathLoose.min_long.code 4 (some .long) ∈ lw_tbl := ⟨fk_in4 (List.mem_of_getElem? (i := 83) rfl), fk_in1 (List.mem_of_getElem? (i := 15) rfl), fk_in4 (List.mem_of_getElem? (i := 84) rfl)⟩
theorem sI_ss {σ : fkS} {i j : Nat} {v : Int32} : (sI σ i j v).1 i j = v := (congrFun sI_s j).trans (if_pos rfl)
theorem sI_so {σ : fkS} {i j b : Nat} {v : Int32} (h : b ≠ j) : (sI σ i j v).1 i b = σ.1 i b := (congrFun sI_s b).trans (if_neg h)
theorem sL_ss {σ : fkS} {i j : Nat} {v : Int64} : (sL σ i j v).2.1 i j = v := (congrFun sL_s j).trans (if_pos rfl)
theorem sL_so {σ : fkS} {i j b : Nat} {v : Int64} (h : b ≠ j) : (sL σ i j v).2.1 i b = σ.2.1 i b := (congrFun sL_s b).trans (if_neg h)
theorem sR_ss {σ : fkS} {i j : Nat} {v : Nat} : (sR σ i j v).2.2 i j = v := (congrFun sR_s j).trans (if_pos rfl)
theorem sR_so {σ : fkS} {i j b : Nat} {v : Nat} (h : b ≠ j) : (sR σ i j v).2.2 i b = σ.2.2 i b := (congrFun sR_s b).trans (if_neg h)
section S
variable {k d pc : Nat} {ls : List (Option Value)} {st : List Value} {σ : fkS} {Q : Option Value → fkS → Prop}
theorem q_br {c : ClassFile.Cond} {x y : Int32} {off : Int} {tgt : Nat} (hd : decode (fk_M k).2.1 pc = .ok (.if_icmp c off, 3)) (ht : (pc : Int) + off = (tgt : Int)) (h : fk_br c x y (Wq k d tgt ls st σ Q) (Wq k d (pc + 3) ls st σ Q)) : Wq k d pc ls (.int y :: .int x :: st) σ Q := by
  cases c
  · exact q_icmp_eq hd ht h
  · exact q_icmp_ne hd ht h
  · exact q_icmp_lt hd ht h
  · exact q_icmp_ge hd ht h
  · exact q_icmp_gt hd ht h
  · exact q_icmp_le hd ht h
theorem q_br0 {c : ClassFile.Cond} {x : Int32} {off : Int} {tgt : Nat} (hd : decode (fk_M k).2.1 pc = .ok (.ifCond c off, 3)) (ht : (pc : Int) + off = (tgt : Int)) (h : fk_br c x 0 (Wq k d tgt ls st σ Q) (Wq k d (pc + 3) ls st σ Q)) : Wq k d pc ls (.int x :: st) σ Q := by
  cases c
  · exact q_if_eq hd ht h
  · exact q_if_ne hd ht h
  · exact q_if_lt hd ht h
  · exact q_if_ge hd ht h
  · exact q_if_gt hd ht h
  · exact q_if_le hd ht h
theorem fk_br_mono {c : ClassFile.Cond} {x y : Int32} {A A' B B' : Prop} (hA : A → A') (hB : B → B') (h : fk_br c x y A B) : fk_br c x y A' B' := by
  cases c <;> exact ⟨fun z => hA (h.1 z), fun z => hB (h.2 z)⟩
theorem fk_tsw_mono {x : Int} {J J' : Nat → Prop} (hJ : ∀ t, J t → J' t) : ∀ {ts : List Nat} {lo : Int}, fk_tsw x lo ts J → fk_tsw x lo ts J'
  | [], _, _ => trivial
  | _ :: _, _, h => ⟨fun z => hJ _ (h.1 z), fk_tsw_mono hJ h.2⟩
theorem fk_lsw_mono {x : Int} {t0 : Nat} {J J' : Nat → Prop} (hJ : ∀ t, J t → J' t) : ∀ {ts : List (Int × Nat)}, fk_lsw x t0 ts J → fk_lsw x t0 ts J'
  | [], h => hJ _ h
  | _ :: _, h => ⟨fun z => hJ _ (h.1 z), fun z => fk_lsw_mono hJ (h.2 z)⟩
theorem fk_and {a b : Bool} (h : (a && b) = true) : a = true ∧ b = true := by simpa using h
theorem fk_getD {ts : List Nat} {i z t : Nat} (h : ts.getD i z = t) (hi : i < ts.length) : ts[i]? = some t := by
  rw [List.getD_eq_getElem?_getD] at h
  rw [List.getElem?_eq_getElem hi] at h ⊢
  exact congrArg some h
theorem fk_tgl {ci : Nat} {q : vw_C} (h : fk_cls[ci]? = some q) : ci < 13 ∧ (fk_tg.getD ci []).length = q.2.2 := by
  have hc : ci < 13 := (List.getElem?_eq_some_iff.mp h).1
  have h1 := List.all_eq_true.mp fk_tag_ty ci (List.mem_range.mpr hc)
  rw [Bool.and_eq_true] at h1
  have h2 := of_decide_eq_true h1.2
  rw [h] at h2
  exact ⟨hc, h2⟩
theorem q_virt {i : Nat} {it : fkI} (hd : decode (fk_M k).2.1 pc = .ok (.invokevirtual i, 3)) (hc1 : decide ((fk_a it 0, fk_a it 5, fk_a it 1) ∈ fk_Il) = true)
    (hc2 : cond (Nat.beq (fk_a it 3) 0) (decide (lw_tbl[fk_a it 2]? = some (.methodLink (fk_own k) i (fk_M (fk_a it 0)).1))) (decide (lw_tbl[fk_a it 2]? = some (.methodLinkNest (fk_own k) i (fk_M (fk_a it 0)).1 "FoldForge"))) = true)
    (h : fk_virt d it st σ fun st' σ' => Wq k d (pc + 3) ls st' σ' Q) : Wq k d pc ls st σ Q := by
  obtain ⟨hj, hin, hse, hnp, hml, c, hc, hcn⟩ := fk_jI hc1
  unfold fk_virt at h
  obtain ⟨c0, r, hst, h⟩ := fk_r1_s h
  obtain ⟨⟨n, hsh⟩, h⟩ := fk_obj_s h
  cases hb : (Nat.beq (st.take (fk_a it 1)).length (fk_a it 1) && Nat.ble (fk_cs r) 8) with
  | false => rw [hb] at h; exact h.elim
  | true =>
    rw [hb] at h
    obtain ⟨hb1, hb2⟩ := fk_and hb
    have hlen := Nat.eq_of_beq_eq_true hb1
    have hcs := Nat.le_of_ble_eq_true hb2
    obtain ⟨e, rfl, h⟩ := fk_dp_s h
    obtain ⟨Q', hcl, hk⟩ := fk_call_s h
    have est : st = (st.take (fk_a it 1)).reverse.reverse ++ .ref c0 :: r := by rw [List.reverse_reverse, ← hst, List.take_append_drop]
    rw [est]
    have hnp' : fk_np (fk_a it 0) ((st.take (fk_a it 1)).reverse).length := by rw [List.length_reverse, hlen]; exact hnp
    cases hn : Nat.beq (fk_a it 3) 0 with
    | true =>
      rw [hn] at hc2
      exact q_cv hd hj (fk_mem_of hc2) hin hse hnp' hml hc hcn hsh hcs hcl hk
    | false =>
      rw [hn] at hc2
      exact q_cvN hd hj (fk_mem_of hc2) hin hse hnp' hml hc hcn hsh hcs hcl hk
theorem q_stat {i j : Nat} {it : fkI} (hd : decode (fk_M k).2.1 pc = .ok (.invokestatic i, 3)) (hc1 : decide ((j, fk_a it 1) ∈ fk_Sl) = true)
    (hc2 : cond (Nat.beq (fk_a it 3) 0) (decide (lw_tbl[fk_a it 2]? = some (.methodLink (fk_own k) i (fk_M j).1))) (decide (lw_tbl[fk_a it 2]? = some (.methodLinkNest (fk_own k) i (fk_M j).1 "FoldForge"))) = true)
    (h : cond (Nat.beq (st.take (fk_a it 1)).length (fk_a it 1) && Nat.ble (fk_cs (st.drop (fk_a it 1))) 8) (fk_dp d fun e => fk_call e j (st.take (fk_a it 1)).reverse σ (fk_a it 4) (fun x σ' => Wq k d (pc + 3) ls (x ++ st.drop (fk_a it 1)) σ' Q)) False) : Wq k d pc ls st σ Q := by
  obtain ⟨hj, hin, hnp, hml⟩ := fk_jS hc1
  cases hb : (Nat.beq (st.take (fk_a it 1)).length (fk_a it 1) && Nat.ble (fk_cs (st.drop (fk_a it 1))) 8) with
  | false => rw [hb] at h; exact h.elim
  | true =>
    rw [hb] at h
    obtain ⟨hb1, hb2⟩ := fk_and hb
    have hlen := Nat.eq_of_beq_eq_true hb1
    have hcs := Nat.le_of_ble_eq_true hb2
    obtain ⟨e, rfl, h⟩ := fk_dp_s h
    obtain ⟨Q', hcl, hk⟩ := fk_call_s h
    have est : st = (st.take (fk_a it 1)).reverse.reverse ++ st.drop (fk_a it 1) := by rw [List.reverse_reverse, List.take_append_drop]
    rw [est]
    have hnp' : fk_np j ((st.take (fk_a it 1)).reverse).length := by rw [List.length_reverse, hlen]; exact hnp
    cases hn : Nat.beq (fk_a it 3) 0 with
    | true =>
      rw [hn] at hc2
      exact q_cs hd hj (fk_mem_of hc2) hin hnp' hml hcs hcl hk
    | false =>
      rw [hn] at hc2
      exact q_csN hd hj (fk_mem_of hc2) hin hnp' hml hcs hcl hk
theorem q_copy {i a b t : Nat} {sp dp n : Int32} (hd : decode (fk_M k).2.1 pc = .ok (.invokestatic i, 3)) (hl : Jvm.Cond.methodLink (fk_own k) i arraycopyName ∈ lw_tbl) (hst : fk_cs st ≤ 8)
    (h : fk_copy a b t sp dp n σ fun σ' => Wq k (d + 1) (pc + 3) ls st σ' Q) : Wq k (d + 1) pc ls (.int n :: .int dp :: .ref b :: .int sp :: .ref a :: st) σ Q := by
  unfold fk_copy at h
  obtain ⟨n0, ha, h⟩ := fk_arr_s h
  obtain ⟨n1, hb, h1, h2, h3, h4, h5, h⟩ := fk_arr_s h
  split at h
  · exact q_copyI hd hl fk_natv.1 fk_natv.2.1 fk_natv.2.2 (Or.inl ⟨rfl, rfl⟩) ha hb h1 h2 h3 h4 h5 (fun e => by omega) hst h
  · exact q_copyL hd hl fk_natv.1 fk_natv.2.1 fk_natv.2.2 ha hb h1 h2 h3 h4 h5 hst h
  · exact q_copyI hd hl fk_natv.1 fk_natv.2.1 fk_natv.2.2 (Or.inr ⟨rfl, rfl⟩) ha hb h1 h2 h3 h4 h5 (fun _ => h.1) hst h.2
  · exact h.elim
theorem q_static {i : Nat} {r : List Nat} {len : Nat} (hd : decode (fk_M k).2.1 pc = .ok (.invokestatic i, 3)) (hc : fk_chk k pc (.invokestatic i, len, r) = true) (h : fk_static d (.invokestatic i, len, r) st σ fun st' σ' => Wq k d (pc + 3) ls st' σ' Q) : Wq k d pc ls st σ Q := by
  unfold fk_static at h
  unfold fk_chk at hc
  simp only at hc
  generalize hA : fk_a (.invokestatic i, len, r) 0 = A at h hc
  split at h
  · simp only at hc
    obtain ⟨a, sp, b, dp, n, r', hst, hh⟩ := fk_cp_s h
    subst hst
    clear h
    cases hb : Nat.ble (fk_cs r') 8 with
    | false => rw [hb] at hh; exact hh.elim
    | true =>
      rw [hb] at hh
      obtain ⟨e, he, hh⟩ := fk_dp_s hh
      subst he
      exact q_copy hd (fk_mem_of hc) (Nat.le_of_ble_eq_true hb) hh
  · simp only at hc
    obtain ⟨x, y, r', hst, hh⟩ := fk_p2_s h
    subst hst
    clear h
    cases hb : Nat.ble (fk_cs r') 8 with
    | false => rw [hb] at hh; exact hh.elim
    | true =>
      rw [hb] at hh
      obtain ⟨e, he, hh⟩ := fk_dp_s hh
      subst he
      exact q_max hd (fk_mem_of hc) fk_maxw.1 fk_maxw.2.1 fk_maxw.2.2 (Nat.le_of_ble_eq_true hb) hh
  · simp only at hc
    obtain ⟨x, y, r', hst, hh⟩ := fk_p2_s h
    subst hst
    clear h
    cases hb : Nat.ble (fk_cs r') 8 with
    | false => rw [hb] at hh; exact hh.elim
    | true =>
      rw [hb] at hh
      obtain ⟨e, he, hh⟩ := fk_dp_s hh
      subst he
      exact q_min hd (fk_mem_of hc) fk_minw.1 fk_minw.2.1 fk_minw.2.2 (Nat.le_of_ble_eq_true hb) hh
  · simp only at hc
    obtain ⟨x, y, r', hst, hh⟩ := fk_l2_s h
    subst hst
    clear h
    cases hb : Nat.ble (fk_cs r') 8 with
    | false => rw [hb] at hh; exact hh.elim
    | true =>
      rw [hb] at hh
      obtain ⟨e, he, hh⟩ := fk_dp_s hh
      subst he
      exact q_lmin hd (fk_mem_of hc) fk_lminw.1 fk_lminw.2.1 fk_lminw.2.2 (Nat.le_of_ble_eq_true hb) hh
  next j n0 n1 n2 n3 =>
    split at hc
    · exact absurd rfl n0
    · exact absurd rfl n1
    · exact absurd rfl n2
    · exact absurd rfl n3
    · obtain ⟨hc1, hc2⟩ := fk_and hc
      exact q_stat hd hc1 hc2 h
theorem q_getf {i len : Nat} {r : List Nat} {c : Nat} (hd : decode (fk_M k).2.1 pc = .ok (.getfield i, 3)) (hc : fk_chk k pc (.getfield i, len, r) = true)
    (h : fk_obj c (fk_a (.getfield i, len, r) 0) (fk_gf c (fk_a (.getfield i, len, r) 1) ((fk_tg.getD (fk_a (.getfield i, len, r) 0) []).getD (fk_a (.getfield i, len, r) 1) 9) σ fun v => Wq k d (pc + 3) ls (v :: st) σ Q)) : Wq k d pc ls (.ref c :: st) σ Q := by
  obtain ⟨⟨n, hsh⟩, h⟩ := fk_obj_s h
  obtain ⟨v, hv, h⟩ := fk_gf_s h
  unfold fk_chk at hc
  simp only at hc
  split at hc
  next q hq =>
    obtain ⟨hc1, hc2⟩ := fk_and hc
    have hk : fk_a (.getfield i, len, r) 1 < q.2.2 := Nat.le_of_ble_eq_true hc1
    have htg := fk_getD (t := _) rfl (show fk_a (.getfield i, len, r) 1 < (fk_tg.getD (fk_a (.getfield i, len, r) 0) []).length by rw [(fk_tgl hq).2]; exact hk) (z := 9)
    obtain ⟨C, T, N⟩ := q
    cases hn : Nat.beq (fk_a (.getfield i, len, r) 3) 0 with
    | true => rw [hn] at hc2; exact q_get hd hsh htg hq hk (fk_mem_of hc2) hv h
    | false => rw [hn] at hc2; exact q_getN hd hsh htg hq hk (fk_mem_of hc2) hv h
  next => cases hc
theorem q_putf {i len : Nat} {r : List Nat} (hd : decode (fk_M k).2.1 pc = .ok (.putfield i, 3)) (hc : fk_chk k pc (.putfield i, len, r) = true)
    (h : fk_pf (fk_a (.putfield i, len, r) 1) ((fk_tg.getD (fk_a (.putfield i, len, r) 0) []).getD (fk_a (.putfield i, len, r) 1) 9) st σ (fun c P => fk_obj c (fk_a (.putfield i, len, r) 0) P) (fun r σ' => Wq k d (pc + 3) ls r σ' Q)) : Wq k d pc ls st σ Q := by
  unfold fk_chk at hc
  simp only at hc
  split at hc
  next q hq =>
    obtain ⟨hc0, hc2⟩ := fk_and hc
    obtain ⟨hc1, hfin⟩ := fk_and hc0
    have hfin := of_decide_eq_true hfin
    have hk : fk_a (.putfield i, len, r) 1 < q.2.2 := Nat.le_of_ble_eq_true hc1
    have htg := fk_getD (t := _) rfl (show fk_a (.putfield i, len, r) 1 < (fk_tg.getD (fk_a (.putfield i, len, r) 0) []).length by rw [(fk_tgl hq).2]; exact hk) (z := 9)
    obtain ⟨hci, -⟩ := fk_tgl hq
    have hpar := (fk_cfacts hq).2.1 _ hk
    generalize ht : (fk_tg.getD (fk_a (.putfield i, len, r) 0) []).getD (fk_a (.putfield i, len, r) 1) 9 = t at h htg
    obtain ⟨g0, g1, g3, g5⟩ := fk_tag hci htg
    generalize fk_a (.putfield i, len, r) 1 = slot at *
    generalize fk_a (.putfield i, len, r) 0 = ci at *
    obtain ⟨C, T, N⟩ := q
    have fin : ∀ {c : Nat} {v : Value} {r' : List Value} {σ' : fkS} {n : Nat}, fk_sh[c]? = some (ci + 4, n) → (∀ g : fkG, narrow (fk_ty ci slot) (fk_tr g v) = fk_tr g v) → (∀ g : fkG, fits (fk_ty ci slot) (fk_tr g v) = true) →
        (∀ g : fkG, fk_fv (σ'.1 c) (σ'.2.1 c) (σ'.2.2 c) g c slot t = fk_tr g v) → (∀ j, j ≠ slot → σ'.1 c j = σ.1 c j ∧ σ'.2.1 c j = σ.2.1 c j ∧ σ'.2.2 c j = σ.2.2 c j) → (∀ a, a ≠ c → σ'.1 a = σ.1 a ∧ σ'.2.1 a = σ.2.1 a ∧ σ'.2.2 a = σ.2.2 a) → Wq k d (pc + 3) ls r' σ' Q → Wq k d pc ls (v :: .ref c :: r') σ Q := by
      intro c v r' σ' n hsh hn hf hv ho hq2 hw
      cases hnn : Nat.beq (fk_a (.putfield i, len, r) 3) 0 with
      | true => rw [hnn] at hc2; exact q_put hd hsh htg hq hk (fk_mem_of hc2) hfin hpar hn hf hv ho hq2 hw
      | false => rw [hnn] at hc2; exact q_putN hd hsh htg hq hk (fk_mem_of hc2) hfin hpar hn hf hv ho hq2 hw
    unfold fk_pf at h
    split at h
    · obtain ⟨c, v, r', hst, hh⟩ := fk_rI_s h
      subst hst
      obtain ⟨⟨n, hsh⟩, hh⟩ := fk_obj_s hh
      refine fin (v := .int v) (σ' := sI σ c slot v) hsh (fun _ => by rw [g0 rfl]; rfl) (fun _ => by rw [g0 rfl]; rfl) (fun g => ?_) (fun j hj => ⟨?_, rfl, rfl⟩) (fun a ha => ⟨sI_o ha, rfl, rfl⟩) hh
      · show Value.int ((sI σ c slot v).1 c slot) = _
        rw [sI_ss]; rfl
      · exact sI_so hj
    · obtain ⟨c, v, r', hst, hh⟩ := fk_rI_s h
      subst hst
      obtain ⟨⟨n, hsh⟩, hh⟩ := fk_obj_s hh
      obtain ⟨hv, hh⟩ := fk_bz_s hh
      refine fin (v := .int v) (σ' := sI σ c slot v) hsh (fun _ => by rw [g1 rfl]; exact (fk_bool hv).1) (fun _ => by rw [g1 rfl]; exact (fk_bool hv).2.1) (fun g => ?_) (fun j hj => ⟨?_, rfl, rfl⟩) (fun a ha => ⟨sI_o ha, rfl, rfl⟩) hh
      · show Value.int ((sI σ c slot v).1 c slot) = _
        rw [sI_ss]; rfl
      · exact sI_so hj
    · obtain ⟨c, v, r', hst, hh⟩ := fk_rL_s h
      subst hst
      obtain ⟨⟨n, hsh⟩, hh⟩ := fk_obj_s hh
      refine fin (v := .long v) (σ' := sL σ c slot v) hsh (fun _ => by rw [g3 rfl]; rfl) (fun _ => by rw [g3 rfl]; rfl) (fun g => ?_) (fun j hj => ⟨rfl, ?_, rfl⟩) (fun a ha => ⟨rfl, sL_o ha, rfl⟩) hh
      · show Value.long ((sL σ c slot v).2.1 c slot) = _
        rw [sL_ss]; rfl
      · exact sL_so hj
    · obtain ⟨c, v, r', hst, hh⟩ := fk_rR_s h
      subst hst
      obtain ⟨⟨n, hsh⟩, hh⟩ := fk_obj_s hh
      have hty := g5 rfl
      refine fin (v := .ref v) (σ' := sR σ c slot (v + 1)) hsh (fun _ => by rcases hty with ⟨n, e⟩ | ⟨n, e⟩ <;> rw [e] <;> rfl) (fun _ => by rcases hty with ⟨n, e⟩ | ⟨n, e⟩ <;> rw [e] <;> rfl) (fun g => ?_) (fun j hj => ⟨rfl, rfl, ?_⟩) (fun a ha => ⟨rfl, rfl, sR_o ha⟩) hh
      · have e : (sR σ c slot (v + 1)).2.2 c slot = v + 1 := sR_ss
        show (match (sR σ c slot (v + 1)).2.2 c slot with | 0 => Value.null | r + 1 => Value.ref (g.2.1 r)) = _
        rw [e]; rfl
      · exact sR_so hj
    · exact h.elim
  next => cases hc
end S
