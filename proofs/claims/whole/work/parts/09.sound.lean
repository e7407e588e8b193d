/-! A STEP IS SOUND; runs of steps over a method's code -/
theorem fk_p1_m {st : List Value} {K K' : Int32 → List Value → Prop} (hK : ∀ a0 a1, K a0 a1 → K' a0 a1) (h : fk_p1 st K) : fk_p1 st K' := by
  unfold fk_p1 at h ⊢
  split at h
  · exact hK _ _ h
  · exact h.elim
theorem fk_p2_m {st : List Value} {K K' : Int32 → Int32 → List Value → Prop} (hK : ∀ a0 a1 a2, K a0 a1 a2 → K' a0 a1 a2) (h : fk_p2 st K) : fk_p2 st K' := by
  unfold fk_p2 at h ⊢
  split at h
  · exact hK _ _ _ h
  · exact h.elim
theorem fk_l2_m {st : List Value} {K K' : Int64 → Int64 → List Value → Prop} (hK : ∀ a0 a1 a2, K a0 a1 a2 → K' a0 a1 a2) (h : fk_l2 st K) : fk_l2 st K' := by
  unfold fk_l2 at h ⊢
  split at h
  · exact hK _ _ _ h
  · exact h.elim
theorem fk_r1_m {st : List Value} {K K' : Nat → List Value → Prop} (hK : ∀ a0 a1, K a0 a1 → K' a0 a1) (h : fk_r1 st K) : fk_r1 st K' := by
  unfold fk_r1 at h ⊢
  split at h
  · exact hK _ _ h
  · exact h.elim
theorem fk_rI_m {st : List Value} {K K' : Nat → Int32 → List Value → Prop} (hK : ∀ a0 a1 a2, K a0 a1 a2 → K' a0 a1 a2) (h : fk_rI st K) : fk_rI st K' := by
  unfold fk_rI at h ⊢
  split at h
  · exact hK _ _ _ h
  · exact h.elim
theorem fk_rL_m {st : List Value} {K K' : Nat → Int64 → List Value → Prop} (hK : ∀ a0 a1 a2, K a0 a1 a2 → K' a0 a1 a2) (h : fk_rL st K) : fk_rL st K' := by
  unfold fk_rL at h ⊢
  split at h
  · exact hK _ _ _ h
  · exact h.elim
theorem fk_rR_m {st : List Value} {K K' : Nat → Nat → List Value → Prop} (hK : ∀ a0 a1 a2, K a0 a1 a2 → K' a0 a1 a2) (h : fk_rR st K) : fk_rR st K' := by
  unfold fk_rR at h ⊢
  split at h
  · exact hK _ _ _ h
  · exact h.elim
theorem fk_cp_m {st : List Value} {K K' : Nat → Int32 → Nat → Int32 → Int32 → List Value → Prop} (hK : ∀ a0 a1 a2 a3 a4 a5, K a0 a1 a2 a3 a4 a5 → K' a0 a1 a2 a3 a4 a5) (h : fk_cp st K) : fk_cp st K' := by
  unfold fk_cp at h ⊢
  split at h
  · exact hK _ _ _ _ _ _ h
  · exact h.elim
theorem fk_cond_m {b : Bool} {P P' : Prop} (hp : P → P') (h : cond b P False) : cond b P' False := by
  cases b
  · exact h
  · exact hp h
theorem fk_obj_m {c ci : Nat} {P P' : Prop} (hp : P → P') (h : fk_obj c ci P) : fk_obj c ci P' := by
  unfold fk_obj at h ⊢
  split at h
  · exact fk_cond_m hp h
  · exact h.elim
theorem fk_arr_m {c t : Nat} {K K' : Nat → Prop} (hp : ∀ n, K n → K' n) (h : fk_arr c t K) : fk_arr c t K' := by
  unfold fk_arr at h ⊢
  split at h
  · exact fk_cond_m (hp _) h
  · exact h.elim
theorem fk_dp_m {d : Nat} {K K' : Nat → Prop} (hp : ∀ n, K n → K' n) (h : fk_dp d K) : fk_dp d K' := by
  cases d
  · exact h
  · exact hp _ h
theorem fk_bz_m {x : Int32} {P P' : Prop} (hp : P → P') (h : fk_bz x P) : fk_bz x P' := fk_cond_m hp h
theorem fk_gf_m {c slot t : Nat} {σ : fkS} {K K' : Value → Prop} (hp : ∀ v, K v → K' v) (h : fk_gf c slot t σ K) : fk_gf c slot t σ K' := by
  unfold fk_gf at h ⊢
  split at h <;> first | exact hp _ h | exact ⟨h.1, hp _ h.2⟩
theorem fk_pf_m {slot t : Nat} {st : List Value} {σ : fkS} {ci : Nat} {K K' : List Value → fkS → Prop} (hp : ∀ r σ, K r σ → K' r σ) (h : fk_pf slot t st σ (fun c P => fk_obj c ci P) K) : fk_pf slot t st σ (fun c P => fk_obj c ci P) K' := by
  unfold fk_pf at h ⊢
  split at h
  · exact fk_rI_m (fun _ _ _ => fk_obj_m (hp _ _)) h
  · exact fk_rI_m (fun _ _ _ => fk_obj_m (fk_bz_m (hp _ _))) h
  · exact fk_rL_m (fun _ _ _ => fk_obj_m (hp _ _)) h
  · exact fk_rR_m (fun _ _ _ => fk_obj_m (hp _ _)) h
  · exact h.elim
theorem fk_call_m {d j : Nat} {as : List Value} {σ : fkS} {rt : Nat} {K K' : List Value → fkS → Prop} (hp : ∀ r σ, K r σ → K' r σ) (h : fk_call d j as σ rt K) : fk_call d j as σ rt K' := by
  unfold fk_call at h ⊢
  split at h
  · exact Cl.mono h (fun x σ' hx => by obtain ⟨rfl, hx⟩ := Qv_s hx; exact hp _ _ hx)
  · exact Cl.mono h (fun x σ' hx => by obtain ⟨v, rfl, hx⟩ := Qi_s hx; exact hp _ _ hx)
  · exact Cl.mono h (fun x σ' hx => by obtain ⟨v, rfl, hx⟩ := Qj_s hx; exact hp _ _ hx)
  · exact Cl.mono h (fun x σ' hx => by obtain ⟨rfl, e, hx⟩ := Qv_s hx; exact ⟨e, hp _ _ hx⟩)
  · exact Cl.mono h (fun x σ' hx => by obtain ⟨v, rfl, e, hx⟩ := Qi_s hx; exact ⟨e, hp _ _ hx⟩)
  · exact Cl.mono h (fun x σ' hx => by obtain ⟨v, rfl, e, hx⟩ := Qj_s hx; exact ⟨e, hp _ _ hx⟩)
theorem fk_copy_m {a b t : Nat} {sp dp n : Int32} {σ : fkS} {K K' : fkS → Prop} (hp : ∀ σ, K σ → K' σ) (h : fk_copy a b t sp dp n σ K) : fk_copy a b t sp dp n σ K' := by
  unfold fk_copy at h ⊢
  refine fk_arr_m (fun n0 h => fk_arr_m (fun n1 h => ?_) h) h
  obtain ⟨h1, h2, h3, h4, h5, h⟩ := h
  refine ⟨h1, h2, h3, h4, h5, ?_⟩
  split at h
  · exact hp _ h
  · exact hp _ h
  · exact ⟨h.1, hp _ h.2⟩
  · exact h.elim
theorem fk_virt_m {d : Nat} {it : fkI} {st : List Value} {σ : fkS} {K K' : List Value → fkS → Prop} (hp : ∀ r σ, K r σ → K' r σ) (h : fk_virt d it st σ K) : fk_virt d it st σ K' :=
  fk_r1_m (fun _ _ => fk_obj_m (fk_cond_m (fk_dp_m (fun _ => fk_call_m (fun _ _ => hp _ _))))) h
theorem fk_static_m {d : Nat} {it : fkI} {st : List Value} {σ : fkS} {K K' : List Value → fkS → Prop} (hp : ∀ r σ, K r σ → K' r σ) (h : fk_static d it st σ K) : fk_static d it st σ K' := by
  unfold fk_static at h ⊢
  split at h
  · exact fk_cp_m (fun _ _ _ _ _ _ => fk_cond_m (fk_dp_m (fun _ => fk_copy_m (hp _)))) h
  · exact fk_p2_m (fun _ _ _ => fk_cond_m (fk_dp_m (fun _ => hp _ _))) h
  · exact fk_p2_m (fun _ _ _ => fk_cond_m (fk_dp_m (fun _ => hp _ _))) h
  · exact fk_l2_m (fun _ _ _ => fk_cond_m (fk_dp_m (fun _ => hp _ _))) h
  · exact fk_cond_m (fk_dp_m (fun _ => fk_call_m (fun _ _ => hp _ _))) h
section S2
variable {k d pc : Nat} {ls : List (Option Value)} {st : List Value} {σ : fkS} {Q : Option Value → fkS → Prop}
set_option maxHeartbeats 4000000 in
theorem fk_step_sound {it : fkI} {N J : fkK} (hok : fk_ok0 k pc it = true) (hN : ∀ ls st σ, N (pc + fk_len it) ls st σ → Wq k d (pc + fk_len it) ls st σ Q) (hJ : ∀ pc ls st σ, J pc ls st σ → Wq k d pc ls st σ Q) (h : fk_step k d it pc ls st σ Q N J) : Wq k d pc ls st σ Q := by
  obtain ⟨ins, len, r⟩ := it
  obtain ⟨hd0, hc⟩ := fk_and hok
  have hd := of_decide_eq_true hd0
  clear hd0 hok
  unfold fk_step at h
  simp only at h
  split at h
  · exact q_iconst hd rfl (hN _ _ _ h)
  · exact q_bipush hd (of_decide_eq_true hc) (hN _ _ _ h)
  · exact q_sipush hd (of_decide_eq_true hc) (hN _ _ _ h)
  · exact q_lconst hd rfl (hN _ _ _ h)
  · exact q_ldc hd (fk_mem_of hc) (hN _ _ _ h)
  · exact q_ldcw hd (fk_mem_of hc) (hN _ _ _ h)
  · exact q_ldc2 hd (fk_mem_of hc) (hN _ _ _ h)
  · obtain ⟨x, hx, hh⟩ := fk_lI_s h
    exact q_iload hd hx (hN _ _ _ hh)
  · obtain ⟨x, hx, hh⟩ := fk_lI_s h
    exact q_iload_n hd hx (hN _ _ _ hh)
  · obtain ⟨x, hx, hh⟩ := fk_lL_s h
    exact q_lload hd hx (hN _ _ _ hh)
  · obtain ⟨x, hx, hh⟩ := fk_lL_s h
    exact q_lload_n hd hx (hN _ _ _ hh)
  · obtain ⟨x, hx, hh⟩ := fk_lR_s h
    exact q_aload hd hx (hN _ _ _ hh)
  · obtain ⟨x, hx, hh⟩ := fk_lR_s h
    exact q_aload_n hd hx (hN _ _ _ hh)
  · obtain ⟨x, r', hst, hh⟩ := fk_p1_s h
    subst hst
    rw [fk_fc_eq] at hh
    exact q_istore hd (Nat.le_of_ble_eq_true hc) (hN _ _ _ hh)
  · obtain ⟨x, r', hst, hh⟩ := fk_p1_s h
    subst hst
    rw [fk_fc_eq] at hh
    exact q_istore_n hd (Nat.le_of_ble_eq_true hc) (hN _ _ _ hh)
  · obtain ⟨x, r', hst, hh⟩ := fk_l1_s h
    subst hst
    rw [fk_fc_eq] at hh
    exact q_lstore hd (Nat.le_of_ble_eq_true hc) (hN _ _ _ hh)
  · obtain ⟨x, r', hst, hh⟩ := fk_l1_s h
    subst hst
    rw [fk_fc_eq] at hh
    exact q_lstore_n hd (Nat.le_of_ble_eq_true hc) (hN _ _ _ hh)
  · obtain ⟨x, r', hst, hh⟩ := fk_r1_s h
    subst hst
    rw [fk_fc_eq] at hh
    exact q_astore hd (Nat.le_of_ble_eq_true hc) (hN _ _ _ hh)
  · obtain ⟨x, r', hst, hh⟩ := fk_r1_s h
    subst hst
    rw [fk_fc_eq] at hh
    exact q_astore_n hd (Nat.le_of_ble_eq_true hc) (hN _ _ _ hh)
  · obtain ⟨x, hx, hh⟩ := fk_lI_s h
    rw [fk_fc_eq] at hh
    exact q_iinc hd hx (Nat.le_of_ble_eq_true hc) (hN _ _ _ hh)
  · obtain ⟨x, y, r', hst, hh⟩ := fk_p2_s h
    subst hst
    exact q_iadd hd (hN _ _ _ hh)
  · obtain ⟨x, y, r', hst, hh⟩ := fk_p2_s h
    subst hst
    exact q_isub hd (hN _ _ _ hh)
  · obtain ⟨x, y, r', hst, hh⟩ := fk_p2_s h
    subst hst
    exact q_imul hd (hN _ _ _ hh)
  · obtain ⟨x, y, r', hst, hh⟩ := fk_p2_s h
    subst hst
    exact q_iand hd (hN _ _ _ hh)
  · obtain ⟨x, y, r', hst, hh⟩ := fk_p2_s h
    subst hst
    exact q_ior hd (hN _ _ _ hh)
  · obtain ⟨x, y, r', hst, hh⟩ := fk_p2_s h
    subst hst
    exact q_ixor hd (hN _ _ _ hh)
  · obtain ⟨x, y, r', hst, hh⟩ := fk_p2_s h
    subst hst
    exact q_ishl hd (hN _ _ _ hh)
  · obtain ⟨x, y, r', hst, hh⟩ := fk_p2_s h
    subst hst
    exact q_ishr hd (hN _ _ _ hh)
  · obtain ⟨x, y, r', hst, hh⟩ := fk_p2_s h
    subst hst
    exact q_iushr hd (hN _ _ _ hh)
  · obtain ⟨x, y, r', hst, hne, hh⟩ := fk_p2_s h
    subst hst
    exact q_idiv hd hne (hN _ _ _ hh)
  · obtain ⟨x, y, r', hst, hne, hh⟩ := fk_p2_s h
    subst hst
    exact q_irem hd hne (hN _ _ _ hh)
  · obtain ⟨x, r', hst, hh⟩ := fk_p1_s h
    subst hst
    exact q_ineg hd (hN _ _ _ hh)
  · obtain ⟨x, y, r', hst, hh⟩ := fk_l2_s h
    subst hst
    exact q_ladd hd (hN _ _ _ hh)
  · obtain ⟨x, y, r', hst, hh⟩ := fk_l2_s h
    subst hst
    exact q_lsub hd (hN _ _ _ hh)
  · obtain ⟨x, y, r', hst, hh⟩ := fk_l2_s h
    subst hst
    exact q_lmul hd (hN _ _ _ hh)
  · obtain ⟨x, y, r', hst, hh⟩ := fk_l2_s h
    subst hst
    exact q_land hd (hN _ _ _ hh)
  · obtain ⟨x, y, r', hst, hh⟩ := fk_l2_s h
    subst hst
    exact q_lor hd (hN _ _ _ hh)
  · obtain ⟨x, y, r', hst, hh⟩ := fk_l2_s h
    subst hst
    exact q_lxor hd (hN _ _ _ hh)
  · obtain ⟨x, y, r', hst, hne, hh⟩ := fk_l2_s h
    subst hst
    exact q_ldiv hd hne (hN _ _ _ hh)
  · obtain ⟨x, y, r', hst, hne, hh⟩ := fk_l2_s h
    subst hst
    exact q_lrem hd hne (hN _ _ _ hh)
  · obtain ⟨x, r', hst, hh⟩ := fk_l1_s h
    subst hst
    exact q_lneg hd (hN _ _ _ hh)
  · obtain ⟨x, y, r', hst, hh⟩ := fk_l2_s h
    subst hst
    exact q_lcmp hd (hN _ _ _ hh)
  · obtain ⟨x, y, r', hst, hh⟩ := fk_li_s h
    subst hst
    exact q_lshl hd (hN _ _ _ hh)
  · obtain ⟨x, y, r', hst, hh⟩ := fk_li_s h
    subst hst
    exact q_lshr hd (hN _ _ _ hh)
  · obtain ⟨x, y, r', hst, hh⟩ := fk_li_s h
    subst hst
    exact q_lushr hd (hN _ _ _ hh)
  · obtain ⟨x, r', hst, hh⟩ := fk_p1_s h
    subst hst
    exact q_i2l hd (hN _ _ _ hh)
  · obtain ⟨x, r', hst, hh⟩ := fk_l1_s h
    subst hst
    exact q_l2i hd (hN _ _ _ hh)
  · obtain ⟨x, r', hst, hh⟩ := fk_p1_s h
    subst hst
    exact q_i2b hd (hN _ _ _ hh)
  · obtain ⟨x, r', hst, hh⟩ := fk_p1_s h
    subst hst
    exact q_i2c hd (hN _ _ _ hh)
  · obtain ⟨v, r', hst, hh⟩ := fk_v1_s h
    subst hst
    cases hb : Nat.beq (Value.category v) 1 with
    | false => rw [hb] at hh; exact hh.elim
    | true => rw [hb] at hh; exact q_dup hd (Nat.eq_of_beq_eq_true hb) (hN _ _ _ hh)
  · obtain ⟨v, r', hst, hh⟩ := fk_v1_s h
    subst hst
    cases hb : Nat.beq (Value.category v) 1 with
    | false => rw [hb] at hh; exact hh.elim
    | true => rw [hb] at hh; exact q_pop hd (Nat.eq_of_beq_eq_true hb) (hN _ _ _ hh)
  · obtain ⟨v, r', hst, hh⟩ := fk_v1_s h
    subst hst
    cases hb : Nat.beq (Value.category v) 2 with
    | false => rw [hb] at hh; exact hh.elim
    | true => rw [hb] at hh; exact q_pop2 hd (Nat.eq_of_beq_eq_true hb) (hN _ _ _ hh)
  · obtain ⟨v, u, r', hst, hh⟩ := fk_v2_s h
    subst hst
    cases hb : (Nat.beq (Value.category v) 1 && Nat.beq (Value.category u) 1) with
    | false => rw [hb] at hh; exact hh.elim
    | true =>
      rw [hb] at hh
      obtain ⟨b1, b2⟩ := fk_and hb
      exact q_dup2 hd (Nat.eq_of_beq_eq_true b1) (Nat.eq_of_beq_eq_true b2) (hN _ _ _ hh)
  · obtain ⟨v, u, r', hst, hh⟩ := fk_v2_s h
    subst hst
    cases hb : (Nat.beq (Value.category v) 1 && Nat.beq (Value.category u) 1) with
    | false => rw [hb] at hh; exact hh.elim
    | true =>
      rw [hb] at hh
      obtain ⟨b1, b2⟩ := fk_and hb
      exact q_dup_x1 hd (Nat.eq_of_beq_eq_true b1) (Nat.eq_of_beq_eq_true b2) (hN _ _ _ hh)
  · obtain ⟨x, r', hst, hh⟩ := fk_p1_s h
    subst hst
    exact q_br0 hd (of_decide_eq_true hc) (fk_br_mono (hJ _ _ _ _) (hN _ _ _) hh)
  · obtain ⟨x, y, r', hst, hh⟩ := fk_p2_s h
    subst hst
    exact q_br hd (of_decide_eq_true hc) (fk_br_mono (hJ _ _ _ _) (hN _ _ _) hh)
  · exact q_goto hd (of_decide_eq_true hc) (hJ _ _ _ _ h)
  · obtain ⟨x, r', hst, hh⟩ := fk_p1_s h
    subst hst
    obtain ⟨hc1, hc2⟩ := fk_and hc
    obtain ⟨hc3, hc4⟩ := fk_and hc1
    exact q_tsw hd (of_decide_eq_true hc3) (of_decide_eq_true hc4) (of_decide_eq_true hc2) ⟨fun z => hJ _ _ _ _ (hh.1 z), fk_tsw_mono (fun t => hJ _ _ _ _) hh.2⟩
  · obtain ⟨x, r', hst, hh⟩ := fk_p1_s h
    subst hst
    obtain ⟨hc1, hc2⟩ := fk_and hc
    obtain ⟨hc3, hc4⟩ := fk_and hc1
    exact q_lsw hd hc3 (of_decide_eq_true hc4) (of_decide_eq_true hc2) (fk_lsw_mono (fun t => hJ _ _ _ _) hh)
  · obtain ⟨c, r', hst, hh⟩ := fk_r1_s h
    subst hst
    exact q_getf hd hc (fk_obj_m (fk_gf_m (fun v => hN _ _ _)) hh)
  · exact q_putf hd hc (fk_pf_m (fun _ _ => hN _ _ _) h)
  · exact q_hget hd (fk_mem_of hc) (hN _ _ _ h)
  · obtain ⟨c, i, r', hst, hh⟩ := fk_ri_s h
    subst hst
    cases hb : Nat.beq c 1000 with
    | true =>
      rw [hb] at hh
      have := Nat.eq_of_beq_eq_true hb
      subst this
      exact q_hald hd hh.1 (hN _ _ _ hh.2)
    | false =>
      rw [hb] at hh
      obtain ⟨n, hsh, hi, hh⟩ := fk_arr_s hh
      exact q_iald hd hsh hi (hN _ _ _ hh)
  · obtain ⟨c, i, r', hst, hh⟩ := fk_ri_s h
    subst hst
    obtain ⟨n, hsh, hi, hh⟩ := fk_arr_s hh
    exact q_lald hd hsh hi (hN _ _ _ hh)
  · obtain ⟨c, i, r', hst, hh⟩ := fk_ri_s h
    subst hst
    obtain ⟨n, ⟨hsh, hi, hh⟩ | ⟨hsh, hi, hh⟩⟩ := fk_arb_s hh
    · exact q_bald hd hsh hi (hN _ _ _ hh)
    · exact q_zald hd hsh hi (hN _ _ _ hh)
  · obtain ⟨c, i, v, r', hst, hh⟩ := fk_rii_s h
    subst hst
    obtain ⟨n, hsh, hi, hh⟩ := fk_arr_s hh
    exact q_iast hd hsh hi (hN _ _ _ hh)
  · obtain ⟨c, i, v, r', hst, hh⟩ := fk_ril_s h
    subst hst
    obtain ⟨n, hsh, hi, hh⟩ := fk_arr_s hh
    exact q_last hd hsh hi (hN _ _ _ hh)
  · obtain ⟨c, i, v, r', hst, hh⟩ := fk_rii_s h
    subst hst
    obtain ⟨n, ⟨hsh, hi, hh⟩ | ⟨hsh, hi, hh⟩⟩ := fk_arb_s hh
    · exact q_bast hd hsh hi (hN _ _ _ hh)
    · obtain ⟨hv, hh⟩ := fk_bz_s hh
      exact q_zast hd hsh hi hv (hN _ _ _ hh)
  · obtain ⟨c, r', hst, hh⟩ := fk_r1_s h
    subst hst
    cases hb : Nat.beq c 1000 with
    | true =>
      rw [hb] at hh
      have := Nat.eq_of_beq_eq_true hb
      subst this
      exact q_hlen hd (hN _ _ _ hh)
    | false =>
      rw [hb] at hh
      obtain ⟨t, n, hsh, ht, hh⟩ := fk_alen_s hh
      exact q_alen (ty := .int) hd hsh ht (hN _ _ _ hh)
  · obtain ⟨x, hst, hh⟩ := fk_e1_s h
    subst hst
    unfold fk_ret at hh
    split at hh
    next e => exact q_iret hd e hh
    next e =>
      obtain ⟨hv, hh⟩ := fk_bz_s hh
      exact q_zret hd e (fk_bool hv).1 hh
    next e => exact q_zret hd e hh.1 hh.2
    next e => exact q_zret hd e hh.1 hh.2
    next => exact hh.elim
  · obtain ⟨x, hst, hh⟩ := fk_el_s h
    subst hst
    exact q_lret hd (of_decide_eq_true hc) hh
  · obtain ⟨hst, hh⟩ := fk_en0_s h
    subst hst
    exact q_vret hd (of_decide_eq_true hc) hh
  · obtain ⟨hc1, hc2⟩ := fk_and hc
    exact q_virt hd hc1 hc2 (fk_virt_m (fun _ _ => hN _ _ _) h)
  · exact q_static hd hc (fk_static_m (fun _ _ => hN _ _ _) h)
  · exact h.elim
theorem fk_lk_s {i l : Nat} (h : fk_lk k i l = true) : ∃ q, fk_lits[l]? = some q ∧ q.1 = (fk_M k).1.cls ∧ q.2.1 = i := by
  unfold fk_lk at h
  split at h
  next q hq =>
    obtain ⟨h1, h2⟩ := fk_and h
    exact ⟨q, hq, of_decide_eq_true h1, Nat.eq_of_beq_eq_true h2⟩
  next => cases h
theorem fk_rg_s {c b : Nat} {P : Prop} (h : fk_rg c b P) : ∃ i, i < fk_nL ∧ c = b + i ∧ P := ⟨c - b, by have := h.1; omega, by have := h.1; omega, h.2⟩
theorem fk_jJ {j n : Nat} (h : decide ((j, n) ∈ fk_Jl) = true) : fk_J (j, n) := fk_Jl_ok _ (of_decide_eq_true h)
theorem q_virtS {i : Nat} {it : fkI} (hd : decode (fk_M k).2.1 pc = .ok (.invokevirtual i, 3)) (hc1 : decide ((fk_a it 0, fk_a it 1) ∈ fk_Jl) = true) (hc2 : decide (lw_tbl[fk_a it 2]? = some (.methodLink (fk_own k) i (fk_M (fk_a it 0)).1)) = true)
    (h : fk_virtS d it st σ fun st' σ' => Wq k d (pc + 3) ls st' σ' Q) : Wq k d pc ls st σ Q := by
  obtain ⟨hj, hin, hse, hnp, hml, hcn⟩ := fk_jJ hc1
  unfold fk_virtS at h
  obtain ⟨c0, r, hst, h⟩ := fk_r1_s h
  obtain ⟨w, hw, rfl, h⟩ := fk_rg_s h
  cases hb : (Nat.beq (st.take (fk_a it 1)).length (fk_a it 1) && Nat.ble (fk_cs r) 8) with
  | false => rw [hb] at h; exact h.elim
  | true =>
    rw [hb] at h
    obtain ⟨hb1, hb2⟩ := fk_and hb
    have hlen := Nat.eq_of_beq_eq_true hb1
    have hcs := Nat.le_of_ble_eq_true hb2
    obtain ⟨e, rfl, h⟩ := fk_dp_s h
    obtain ⟨Q', hcl, hk⟩ := fk_call_s h
    have est : st = (st.take (fk_a it 1)).reverse.reverse ++ .ref (2000 + w) :: r := by rw [List.reverse_reverse, ← hst, List.take_append_drop]
    rw [est]
    have hnp' : fk_np (fk_a it 0) ((st.take (fk_a it 1)).reverse).length := by rw [List.length_reverse, hlen]; exact hnp
    exact q_cvS hd hj (fk_mem_of hc2) hin hse hnp' hml hcn hw hcs hcl hk
theorem fk_virtS_m {it : fkI} {K K' : List Value → fkS → Prop} (hp : ∀ r σ, K r σ → K' r σ) (h : fk_virtS d it st σ K) : fk_virtS d it st σ K' :=
  fk_r1_m (fun _ _ z => ⟨z.1, fk_cond_m (fk_dp_m (fun _ => fk_call_m (fun _ _ => hp _ _))) z.2⟩) h
theorem fk_stepS_sound {it : fkI} {N : fkK} (hd : decode (fk_M k).2.1 pc = .ok (it.1, fk_len it)) (hc : fk_chkS k it = true) (hN : ∀ ls st σ, N (pc + fk_len it) ls st σ → Wq k d (pc + fk_len it) ls st σ Q) (h : fk_stepS d it pc ls st σ N) : Wq k d pc ls st σ Q := by
  obtain ⟨ins, len, r⟩ := it
  unfold fk_chkS at hc
  simp only at hc
  unfold fk_stepS at h
  generalize hA : fk_a (ins, len, r) 6 = A at h hc
  split at hc
  · obtain ⟨q, hq, ho, hi⟩ := fk_lk_s hc
    exact q_ldcS hd hq ho hi (hN _ _ _ h)
  · obtain ⟨q, hq, ho, hi⟩ := fk_lk_s hc
    exact q_ldcwS hd hq ho hi (hN _ _ _ h)
  · obtain ⟨c, r', hst, hh⟩ := fk_r1_s h
    subst hst
    obtain ⟨w, hw, hcw, h9⟩ := fk_rg_s hh
    subst hcw
    clear hh
    have e : 2000 + w + 1000 = 3000 + w := by omega
    rw [e] at h9
    exact q_sval hd hw (fk_mem_of hc) (hN _ _ _ h9)
  · obtain ⟨c, r', hst, hh⟩ := fk_r1_s h
    subst hst
    obtain ⟨w, hw, hcw, h9⟩ := fk_rg_s hh
    subst hcw
    clear hh
    exact q_scod hd hw (fk_mem_of hc) (hN _ _ _ h9)
  · exact q_getC hd (fk_mem_of hc) (hN _ _ _ h)
  · exact q_getF hd (fk_mem_of hc) (hN _ _ _ h)
  · obtain ⟨c, r', hst, hh⟩ := fk_r1_s h
    subst hst
    obtain ⟨w, hw, hcw, h9⟩ := fk_rg_s hh
    subst hcw
    clear hh
    rw [Nat.add_sub_cancel_left] at h9
    exact q_slen hd hw (hN _ _ _ h9)
  · obtain ⟨c, x, r', hst, hh⟩ := fk_ri_s h
    subst hst
    obtain ⟨w, hw, hcw, h9⟩ := fk_rg_s hh
    subst hcw
    clear hh
    rw [Nat.add_sub_cancel_left] at h9
    exact q_sbld hd hw h9.1 (hN _ _ _ h9.2)
  · obtain ⟨hc1, hc2⟩ := fk_and hc
    exact q_virtS hd hc1 hc2 (fk_virtS_m (fun _ _ => hN _ _ _) h)
  · cases hc
theorem fk_stp_sound {it : fkI} {N J : fkK} (hok : fk_ok k pc it = true) (hN : ∀ ls st σ, N (pc + fk_len it) ls st σ → Wq k d (pc + fk_len it) ls st σ Q) (hJ : ∀ pc ls st σ, J pc ls st σ → Wq k d pc ls st σ Q) (h : fk_stp k d it pc ls st σ Q N J) : Wq k d pc ls st σ Q := by
  obtain ⟨hd, hc⟩ := fk_and hok
  unfold fk_stp at h
  cases hs : fk_sk it with
  | zero =>
    rw [hs] at h hc
    exact fk_step_sound (by unfold fk_ok0; rw [Bool.and_eq_true]; exact ⟨hd, hc⟩) hN hJ h
  | succ n =>
    rw [hs] at h hc
    exact fk_stepS_sound (of_decide_eq_true hd) hc hN h
end S2
/-! runs -/
def fk_blk (k d : Nat) (Q : Option Value → fkS → Prop) (J : fkK) : List fkI → fkK
  | [], pc, ls, st, σ => J pc ls st σ
  | it :: t, pc, ls, st, σ => fk_stp k d it pc ls st σ Q (fun _ ls st σ => fk_blk k d Q J t (pc + fk_len it) ls st σ) J
/-- every item of a stretch is what stands in the code -/
def fk_okB (k : Nat) : List fkI → Nat → Bool
  | [], _ => true
  | it :: t, pc => fk_ok k pc it && fk_okB k t (pc + fk_len it)
theorem fk_blk_sound {k d : Nat} {Q : Option Value → fkS → Prop} {J : fkK} (hJ : ∀ pc ls st σ, J pc ls st σ → Wq k d pc ls st σ Q) : ∀ {its : List fkI} {pc : Nat} {ls : List (Option Value)} {st : List Value} {σ : fkS}, fk_okB k its pc = true → fk_blk k d Q J its pc ls st σ → Wq k d pc ls st σ Q
  | [], _, _, _, _, _, h => hJ _ _ _ _ h
  | it :: t, pc, ls, st, σ, hok, h => by
    obtain ⟨h1, h2⟩ := fk_and hok
    exact fk_stp_sound (N := fun _ ls st σ => fk_blk k d Q J t (pc + fk_len it) ls st σ) h1 (fun ls st σ hh => fk_blk_sound hJ h2 hh) hJ h
/-- which of the locals go on -/
def fk_msk : List (Option Value) → List Bool → List (Option Value)
  | [], _ => []
  | v :: t, true :: m => v :: fk_msk t m
  | _ :: t, _ :: m => none :: fk_msk t m
  | _ :: t, [] => none :: fk_msk t []
theorem fk_msk_get : ∀ {ls : List (Option Value)} {m : List Bool} {i : Nat} {v : Value}, (fk_msk ls m)[i]? = some (some v) → ls[i]? = some (some v)
  | [], m, i, v, h => by cases m <;> simp [fk_msk] at h
  | a :: t, true :: m, 0, v, h => by simpa [fk_msk] using h
  | a :: t, true :: m, i + 1, v, h => by
    have h' : (fk_msk t m)[i]? = some (some v) := by simpa [fk_msk] using h
    simpa using fk_msk_get h'
  | a :: t, false :: m, 0, v, h => by simp [fk_msk] at h
  | a :: t, false :: m, i + 1, v, h => by
    have h' : (fk_msk t m)[i]? = some (some v) := by simpa [fk_msk] using h
    simpa using fk_msk_get h'
  | a :: t, [], 0, v, h => by simp [fk_msk] at h
  | a :: t, [], i + 1, v, h => by
    have h' : (fk_msk t [])[i]? = some (some v) := by simpa [fk_msk] using h
    simpa using fk_msk_get h'
abbrev fkB : Type := List (Nat × List fkI)
abbrev fkC : Type := List (Nat × List Bool)
def fk_find {α : Type} : List (Nat × α) → Nat → Option α
  | [], _ => none
  | (a, x) :: t, n => cond (Nat.beq a n) (some x) (fk_find t n)
theorem fk_find_mem {α : Type} : ∀ {l : List (Nat × α)} {n : Nat} {x : α}, fk_find l n = some x → (n, x) ∈ l
  | [], _, _, h => by cases h
  | (a, y) :: t, n, x, h => by
    unfold fk_find at h
    cases hb : Nat.beq a n with
    | true =>
      rw [hb] at h
      have := Nat.eq_of_beq_eq_true hb
      subst this
      cases h
      exact List.mem_cons_self
    | false =>
      rw [hb] at h
      exact List.mem_cons_of_mem _ (fk_find_mem h)
/-- a walk over blocks, up to the cuts -/
def fk_run (k d : Nat) (B : fkB) (C : fkC) (Q : Option Value → fkS → Prop) : Nat → fkK
  | 0, _, _, _, _ => False
  | n + 1, pc, ls, st, σ => match fk_find B pc with
    | none => False
    | some its => fk_blk k d Q (fun pc ls st σ => match fk_find C pc with
      | some m => Wq k d pc (fk_msk ls m) st σ Q
      | none => fk_run k d B C Q n pc ls st σ) its pc ls st σ
def fk_okM (k : Nat) (B : fkB) : Bool := B.all (fun q => fk_okB k q.2 q.1)
theorem fk_run_sound {k d : Nat} {B : fkB} {C : fkC} {Q : Option Value → fkS → Prop} (hB : fk_okM k B = true) : ∀ {n : Nat} {pc : Nat} {ls : List (Option Value)} {st : List Value} {σ : fkS}, fk_run k d B C Q n pc ls st σ → Wq k d pc ls st σ Q
  | 0, _, _, _, _, h => h.elim
  | n + 1, pc, ls, st, σ, h => by
    unfold fk_run at h
    split at h
    next => exact h.elim
    next its hf =>
      refine fk_blk_sound (fun pc ls st σ hj => ?_) (List.all_eq_true.mp hB _ (fk_find_mem hf)) h
      split at hj
      · exact Wq.less (fun i v hv => fk_msk_get hv) hj
      · exact fk_run_sound hB hj
theorem sR_eta {σ : fkS} {i j v : Nat} (h : σ.2.2 i j = v) : sR σ i j v = σ := by
  unfold sR
  have e : (fun a => if a = i then (fun b => if b = j then v else σ.2.2 a b) else σ.2.2 a) = σ.2.2 := by
    funext a b
    by_cases ha : a = i
    · subst ha
      by_cases hb : b = j
      · subst hb
        simp [h]
      · simp [hb]
    · simp [ha]
  rw [e]
/-- a contract, out of a run over the blocks of its code -/
theorem Cl.run {d j : Nat} {as : List Value} {σ : fkS} {Q : Option Value → fkS → Prop} (B : fkB) (C : fkC) (n : Nat) (hj : fk_mok j) (hB : fk_okM j B = true) (hn : Nat.ble (fk_e0 as).length (fk_M j).2.2.1 = true) (h : fk_run j d B C Q n 0 (fk_e as (fk_M j).2.2.1) [] σ) : Cl d j as σ Q :=
  Cl.of hj (Nat.le_of_ble_eq_true hn) (fk_run_sound hB h)
