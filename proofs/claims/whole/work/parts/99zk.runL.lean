/-! THE CLASS runs: CALLS end -/
section XL2
variable {σ0 σ : fkS} {A : List Int32} {F : List (Nat × Nat)} {s : rwS} {p d : Nat}
theorem rx_leave {v : Int32} {M : List Int32} {b rt : Nat} (h : XM σ0 (v :: (M ++ A)) ((b, rt) :: F) s p σ) (hb : b = A.length) : Dv (d + 1) 233 [.ref 98] σ (fun σ' => XM σ0 (v :: A) F s rt σ') := by
  subst hb
  have tl : (M ++ A).length + 1 ≤ 12000 := h.1.2.1
  rw [List.length_append] at tl
  refine S_Runner_leave (yI rfl (rx_pop h) fun x σ1 ⟨hx, h1⟩ w1 => ?_)
  subst hx
  rw [w1]
  have hr1 : σ1.2.2 = σ.2.2 := h1.2.2.2.2.2.1.trans h.2.2.2.2.2.1.symm
  obtain ⟨⟨a1, a2, a3⟩, ⟨c1, c2, c3, c4, c5⟩, hH, h8, h12, hr, hf⟩ := h1
  have c2' : F.length + 1 ≤ 60 := c2
  have e1 : nI ((A.length, rt) :: F).length - 1 = nI F.length := by
    rw [List.length_cons, show (1 : Int32) = nI 1 from rfl, nI_sub (by omega), Nat.add_sub_cancel]
  have m2e : (2 : Int32) * nI F.length = nI (2 * F.length) := by rw [show (2 : Int32) = nI 2 from rfl, nI_mul]
  obtain ⟨g1, g2⟩ := c3 F.length (A.length, rt) (rev_at _ _)
  rw [c1, e1, m2e, (nI_succ (2 * F.length)).symm]
  have ci : (nI (2 * F.length)).toNatClampNeg = 2 * F.length := nI_clamp (by omega)
  have cj : (nI (2 * F.length + 1)).toNatClampNeg = 2 * F.length + 1 := nI_clamp (by omega)
  rw [ci, cj, g1, g2]
  have main : ∀ y : Int32, y = nI ((F.head?.map Prod.fst).getD 0) → XM σ0 A F s rt (sI (sI (sI (sI σ1 98 6 (nI F.length)) 98 4 (nI A.length)) 98 8 (nI rt)) 98 7 y) := by
    intro y hy
    have f0 : Fr (fun c j => Nat.beq c 98 && (Nat.beq j 4 || Nat.beq j 6 || Nat.beq j 7 || Nat.beq j 8)) σ1 (sI (sI (sI (sI σ1 98 6 (nI F.length)) 98 4 (nI A.length)) 98 8 (nI rt)) 98 7 y) := (((Fr.rf.sI rfl).sI rfl).sI rfl).sI rfl
    refine ⟨⟨(sI_so (by decide)).trans ((sI_so (by decide)).trans sI_ss), by omega, fun i u hu => (f0 101 i rfl).1.trans (a3 i u (rev_in (M := M) hu))⟩, ⟨(sI_so (by decide)).trans ((sI_so (by decide)).trans ((sI_so (by decide)).trans sI_ss)), by omega, fun i q hq => ?_, fun _ => sI_ss.trans hy, fun q hq => c5 q (List.mem_cons_of_mem _ hq)⟩, hH.fr f0 rfl rfl rfl (fun _ => rfl) (fun _ => rfl), (sI_so (by decide)).trans sI_ss, (f0 98 12 rfl).1.trans h12, hr, hf.tr (f0.mono fun c j q => ?_)⟩
    · obtain ⟨k1, k2⟩ := c3 i q (rev_in (M := [(A.length, rt)]) hq)
      exact ⟨(f0 102 _ rfl).1.trans k1, (f0 102 _ rfl).1.trans k2⟩
    · unfold fkXC
      simp only [Bool.or_eq_true, Bool.and_eq_true, Nat.beq_eq, Nat.ble_eq] at q ⊢
      omega
  have fin : ∀ σ2, XM σ0 A F s rt σ2 → Dv d 225 [.ref 98, .int x] σ2 (fun σ3 => Qv (fun σ' => σ'.2.2 = σ.2.2 ∧ XM σ0 (x :: A) F s rt σ') none (sW σ3 σ)) := by
    intro σ2 h2
    have hr2 : σ2.2.2 = σ.2.2 := h2.2.2.2.2.2.1.trans h.2.2.2.2.2.1.symm
    refine yV hr2 (rx_push h2 (by omega)) fun σ5 h5 w5 => ?_
    show (sW σ5 σ).2.2 = σ.2.2 ∧ _
    rw [w5]
    exact ⟨h5.2.2.2.2.2.1.trans h.2.2.2.2.2.1.symm, h5⟩
  refine ⟨vp_in_nI (by omega) (by decide), vp_in_nI (by omega) (by decide), fun y => ?_, fun y => ?_⟩
  · have F0 : F = [] := by
      cases F with
      | nil => rfl
      | cons q F => exact absurd y (nI_ge (a := 0) (b := (q :: F).length) (by rw [List.length_cons]; omega) (by omega))
    subst F0
    exact fin _ (main 0 rfl)
  · obtain ⟨q, F2, rfl⟩ : ∃ q F2, F = q :: F2 := by
      cases F with
      | nil => exact absurd (Int32.le_refl _) y
      | cons q F2 => exact ⟨q, F2, rfl⟩
    have l2 : (q :: F2).length = F2.length + 1 := rfl
    have e2 : nI (2 * (q :: F2).length) - 2 = nI (2 * F2.length) := by
      rw [show (2 : Int32) = nI 2 from rfl, nI_sub (by omega)]
      exact congrArg nI (by omega)
    have ck : (nI (2 * F2.length)).toNatClampNeg = 2 * F2.length := nI_clamp (by omega)
    obtain ⟨k1, -⟩ := c3 F2.length q (rev_in (M := [(A.length, rt)]) (rev_at q F2))
    rw [e2, ck, k1]
    exact ⟨vp_in_nI (by omega) (by decide), fin _ (main _ rfl)⟩
end XL2
