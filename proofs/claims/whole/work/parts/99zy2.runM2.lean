/-! THE REFERENCE: call -/
section RM3
variable {t : Nat → UInt8} {n d f : Nat} {D : List FD} {σ0 σ : fkS} {s : rwS} {Q : Option Value → fkS → Prop}
theorem y_fin {r : rR} {x : Nat} {w : Int64} (h1 : YH r.1 σ) (h2 : σ.2.2 = σ0.2.2) (h3 : Fr fkYC σ0 σ) (ho : ∀ v, r.2 = .ok [v] → x = 0 ∧ w = v.toInt64) (he : ∀ y, r.2 = .error y → x = y ∧ w = 0) : YRs σ0 r (sI (sI (sI (sI (sI (sL σ 103 75 w) 103 76 (nI x)) 103 77 (0 : Int32)) 103 139 (σ.1 103 134)) 103 140 (σ.1 103 135)) 103 141 (σ.1 103 137)) := by
  obtain ⟨b1, b2, b3, b4, b5, b6, b7⟩ := h1
  have e76 : (sI (sI (sI (sI (sI (sL σ 103 75 w) 103 76 (nI x)) 103 77 (0 : Int32)) 103 139 (σ.1 103 134)) 103 140 (σ.1 103 135)) 103 141 (σ.1 103 137)).1 103 76 = nI x := (sI_so (by decide)).trans ((sI_so (by decide)).trans ((sI_so (by decide)).trans ((sI_so (by decide)).trans sI_ss)))
  have e75 : (sI (sI (sI (sI (sI (sL σ 103 75 w) 103 76 (nI x)) 103 77 (0 : Int32)) 103 139 (σ.1 103 134)) 103 140 (σ.1 103 135)) 103 141 (σ.1 103 137)).2.1 103 75 = w := sL_ss
  refine ⟨h2, (h3.mono fun c j q => by unfold fkYQ; rw [q]; rfl).tr ((((((Fr.rf.sL rfl).sI rfl).sI rfl).sI rfl).sI rfl).sI rfl), ?_, ?_, ?_, ?_, fun v hv => ?_, fun y hy => ?_⟩
  · exact (sI_so (by decide)).trans ((sI_so (by decide)).trans ((sI_so (by decide)).trans sI_ss))
  · exact (sI_so (by decide)).trans ((sI_so (by decide)).trans (sI_ss.trans b1))
  · exact (sI_so (by decide)).trans (sI_ss.trans b4)
  · exact sI_ss.trans b6
  · obtain ⟨rfl, rfl⟩ := ho v hv
    exact ⟨e76, e75⟩
  · obtain ⟨rfl, rfl⟩ := he y hy
    exact ⟨e76, e75⟩
theorem ly_err {x : Nat} (h : YEr σ0 s x σ) (hx : 1 ≤ x) (hx4 : x ≤ 4) (q : ∀ σ', YRs σ0 (s, .error x) σ' → Q (some (.int (2 : Int32))) σ') : LY d Q σ := by
  have ne : ¬ σ.1 103 138 = 0 := by
    rw [h.2.1]
    exact nI_ne0 (by omega) (by omega)
  unfold LY
  refine S_M_call_106 (d := d + 3) ⟨fun _ => ?_, fun y => absurd y ne⟩
  refine S_M_call_127 (d := d + 3) ⟨fun _ => ?_, fun y => absurd y ne⟩
  refine S_M_call_151 (d := d + 3) ⟨fun _ => ?_, fun y => absurd y ne⟩
  rw [h.2.1]
  exact q _ (y_fin (r := (s, .error x)) h.1 h.2.2.1 h.2.2.2 (fun v hv => by cases hv) (fun y hy => by cases hy; exact ⟨rfl, rfl⟩))
theorem ly_end {v : Int32} {p : Int32} (h : WM σ0 [v] [] s p σ) (q : ∀ σ', YRs σ0 (s, .ok [v]) σ' → Q (some (.int (0 : Int32))) σ') : LY d Q σ := by
  have e138 := h.2.2.2.2.1
  have e136 : σ.1 103 136 ≤ 0 := by rw [h.2.1.1]; decide
  have e133 : σ.1 103 133 - 1 = nI 0 := by rw [h.1.1]; exact nI_pred 0
  have et : σ.1 186 0 = v := h.top
  have c0 : (nI 0).toNatClampNeg = 0 := nI_clamp (by decide)
  unfold LY
  refine S_M_call_106 (d := d + 3) ⟨fun y => absurd e138 y, fun _ => ⟨fun _ => ?_, fun y => absurd e136 y⟩⟩
  refine S_M_call_127 (d := d + 3) ⟨fun y => absurd e138 y, fun _ => ⟨?_, ?_⟩⟩
  · rw [e133]
    exact vp_in_nI (by decide) (by decide)
  · rw [e133, c0, et]
    refine S_M_call_151 (d := d + 3) ⟨fun y => absurd e138 y, fun _ => ?_⟩
    rw [e138]
    exact q _ (y_fin (r := (s, .ok [v])) (x := 0) h.2.2.1 h.2.2.2.2.2.1 h.2.2.2.2.2.2 (fun u hu => by cases hu; exact ⟨rfl, rfl⟩) (fun y hy => by cases hy))
theorem rvS_1 {f : Nat} : ∀ (v : List Int32) (k : Nat), (∀ j, j < v.length → tyD D f (k + j) = 1) → rvS D f k v = v
  | [], _, _ => rfl
  | y :: v, k, h => by
    show rv (tyD D f k) y :: rvS D f (k + 1) v = y :: v
    rw [rvS_1 v (k + 1) (fun j hj => by rw [show k + 1 + j = k + (j + 1) by omega]; exact h (j + 1) (Nat.succ_lt_succ hj)), show tyD D f k = 1 from h 0 (Nat.succ_pos _)]
    rfl
theorem w_59 {tk : Nat} {p : Int32} (hf : f < 20) (h184 : σ0.1 184 f = nI tk) (h4 : tk ≤ 4) (fin : ∀ σ, WM σ0 (agW (σ0.2.1 149) tk).reverse [] ([], 0, 0) p σ → Cv (d + 3) 363 [.ref 103, .int (nI f)] σ (fun σ1 => LY d Q σ1)) : ∀ m j σ, j + m = tk → WM σ0 (agW (σ0.2.1 149) j).reverse [] ([], 0, 0) p σ → Wq 362 (d + 4) 59 [some (.ref 103), some (.int (nI f)), some (.int (nI j))] [] σ Q := by
  have cf : (nI f).toNatClampNeg = f := nI_clamp (by omega)
  intro m
  induction m with
  | zero =>
    intro j σ hj h
    have : j = tk := hj
    subst this
    have e84 : σ.1 184 f = nI j := (h.2.2.2.2.2.2 184 f rfl).1.trans h184
    refine S_M_call_59 (d := d + 3) ?_
    rw [cf, e84]
    exact ⟨vp_in_nI hf (by decide), fun _ => fin σ h, fun y => absurd (Int32.le_refl _) y⟩
  | succ m ih =>
    intro j σ hj h
    have e84 : σ.1 184 f = nI tk := (h.2.2.2.2.2.2 184 f rfl).1.trans h184
    have e149 : σ.2.1 149 j = σ0.2.1 149 j := (h.2.2.2.2.2.2 149 j rfl).2.1
    have e133 : σ.1 103 133 = nI j := by rw [h.1.1, List.length_reverse, agW_l]
    have cj : (nI j).toNatClampNeg = j := nI_clamp (by omega)
    have hp := h.push (v := (σ0.2.1 149 j).toInt32) (by rw [List.length_reverse, agW_l]; omega)
    rw [List.length_reverse, agW_l] at hp
    refine S_M_call_59 (d := d + 3) ?_
    rw [cf, e84, e133, cj, e149, (nI_succ j).symm]
    refine ⟨vp_in_nI hf (by decide), fun y => absurd y (nI_ge (by omega) (by omega)), fun _ => ⟨vp_in_nI (by omega) (by decide), vp_in_nI (by omega) (by decide), ih (j + 1) _ (by omega) ?_⟩⟩
    rw [agW_s]
    exact hp
/-- the reference's RUN -/
theorem m_start (hJ : okJ t n D) (hP : KPr t D σ) (hf : f < D.length) (hty : ∀ k, k < tkD D f → tyD D f k = 1) (hg : gvD D f = 1) (q0 : ∀ x σ', (rRun t D f (agW (σ.2.1 149) (tkD D f))).2 = .ok [x] → YRs σ (rRun t D f (agW (σ.2.1 149) (tkD D f))) σ' → Q (some (.int (0 : Int32))) σ') (q2 : ∀ x σ', (rRun t D f (agW (σ.2.1 149) (tkD D f))).2 = .error x → YRs σ (rRun t D f (agW (σ.2.1 149) (tkD D f))) σ' → Q (some (.int (2 : Int32))) σ') :
    Wq 362 (d + 4) 59 [some (.ref 103), some (.int (nI f)), some (.int (0 : Int32))] [] (sI (sI (sI (sI (sI (sI (sI σ 103 133 (0 : Int32)) 103 134 (0 : Int32)) 103 135 (0 : Int32)) 103 136 (0 : Int32)) 103 137 (0 : Int32)) 103 138 (0 : Int32)) 103 142 (-1 : Int32)) Q := by
  obtain ⟨hC, hR1, -⟩ := hP
  have hq : D[f]? = some D[f] := List.getElem?_eq_getElem hf
  generalize D[f] = fd at hq
  have f20 : f < 20 := by have := hJ.1; omega
  have t4 := hJ.t4 f
  have e84 : σ.1 184 f = nI (tkD D f) := by rw [(rBd_at hq).2.2.1]; exact (hR1 f fd hq).2.1
  have hcall := ex_callM (d := d) hJ hC hR1 60 [] rfl
  have hs : stO (([], 0, 0) : rwS) := ⟨by decide, fun i q hq => by simp at hq⟩
  have hv : vsP D f 0 (tkD D f) 0 (agW (σ.2.1 149) (tkD D f)) := by
    refine ⟨agW_l _ _, fun j v hj => Or.inl ?_⟩
    have hj1 := (List.getElem?_eq_some_iff.mp hj).1
    rw [agW_l] at hj1
    rw [Nat.zero_add]
    exact hty j hj1
  have er : rvS D f 0 (agW (σ.2.1 149) (tkD D f)) = agW (σ.2.1 149) (tkD D f) := rvS_1 _ 0 fun j hj => by
    rw [agW_l] at hj
    rw [Nat.zero_add]
    exact hty j hj
  have f0 : Fr (fun c j => Nat.beq c 103 && ((Nat.ble 133 j && Nat.ble j 138) || Nat.beq j 142)) σ (sI (sI (sI (sI (sI (sI (sI σ 103 133 (0 : Int32)) 103 134 (0 : Int32)) 103 135 (0 : Int32)) 103 136 (0 : Int32)) 103 137 (0 : Int32)) 103 138 (0 : Int32)) 103 142 (-1 : Int32)) := ((((((Fr.rf.sI rfl).sI rfl).sI rfl).sI rfl).sI rfl).sI rfl).sI rfl
  have h0 : WM σ [] [] ([], 0, 0) (-1) (sI (sI (sI (sI (sI (sI (sI σ 103 133 (0 : Int32)) 103 134 (0 : Int32)) 103 135 (0 : Int32)) 103 136 (0 : Int32)) 103 137 (0 : Int32)) 103 138 (0 : Int32)) 103 142 (-1 : Int32)) := by
    refine ⟨⟨?_, Nat.zero_le _, fun i v h => by simp at h⟩, ⟨?_, Nat.zero_le _, fun i q hq => by simp at hq⟩, ⟨?_, Nat.zero_le _, (fun i q hq => by simp at hq), ?_, Nat.zero_le _, ?_, Nat.zero_le _⟩, sI_ss, ?_, rfl, f0.mono fun c j q => ?_⟩
    · exact (sI_so (by decide)).trans ((sI_so (by decide)).trans ((sI_so (by decide)).trans ((sI_so (by decide)).trans ((sI_so (by decide)).trans ((sI_so (by decide)).trans sI_ss)))))
    · exact (sI_so (by decide)).trans ((sI_so (by decide)).trans ((sI_so (by decide)).trans sI_ss))
    · exact (sI_so (by decide)).trans ((sI_so (by decide)).trans ((sI_so (by decide)).trans ((sI_so (by decide)).trans ((sI_so (by decide)).trans sI_ss))))
    · exact (sI_so (by decide)).trans ((sI_so (by decide)).trans ((sI_so (by decide)).trans ((sI_so (by decide)).trans sI_ss)))
    · exact (sI_so (by decide)).trans ((sI_so (by decide)).trans sI_ss)
    · exact (sI_so (by decide)).trans sI_ss
    · unfold fkYC
      rw [q, Bool.or_true]
  refine w_59 (σ0 := σ) (tk := tkD D f) (p := -1) f20 e84 t4 (fun σ1 h1 => ?_) (tkD D f) 0 _ (Nat.zero_add _) h0
  refine hcall f (agW (σ.2.1 149) (tkD D f)) [] ([], 0, 0) (-1) Q σ1 (d + 3) hf hv hs (by decide) (by rw [er, List.append_nil]; exact h1) ?_
  have T1 := rCl_ty hJ.1 hJ.2.1 hJ.2.2 60 f (agW (σ.2.1 149) (tkD D f)) ([], 0, 0) hf hv hs
  have q0' : ∀ x σ', (rCl t D 60 f (agW (σ.2.1 149) (tkD D f)) ([], 0, 0)).2 = .ok [x] → YRs σ (rCl t D 60 f (agW (σ.2.1 149) (tkD D f)) ([], 0, 0)) σ' → Q (some (.int (0 : Int32))) σ' := q0
  have q2' : ∀ x σ', (rCl t D 60 f (agW (σ.2.1 149) (tkD D f)) ([], 0, 0)).2 = .error x → YRs σ (rCl t D 60 f (agW (σ.2.1 149) (tkD D f)) ([], 0, 0)) σ' → Q (some (.int (2 : Int32))) σ' := q2
  rw [hg] at T1 ⊢
  generalize rCl t D 60 f (agW (σ.2.1 149) (tkD D f)) ([], 0, 0) = r at T1 q0' q2' ⊢
  obtain ⟨s1, x | us⟩ := r
  · intro σ' h' x1 x4
    exact ly_err h' x1 x4 fun σ2 h2 => q2' x σ2 rfl h2
  · obtain ⟨-, -, w, rfl, -⟩ := ev_v1 T1 rfl
    intro σ' h'
    exact ly_end (v := w) h' fun σ2 h2 => q0' w σ2 rfl h2
end RM3
