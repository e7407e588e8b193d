/-! THE CLASS runs: CALLS begin -/
section XE2
variable {σ0 σ : fkS} {A : List Int32} {F : List (Nat × Nat)} {s : rwS} {p d : Nat}
theorem XM.err {x : Nat} (h : XM σ0 A F s p σ) : XEr σ0 s x (sI σ 98 12 (nI x)) := by
  obtain ⟨hS, hF, hH, h8, h12, hr, hf⟩ := h
  have f0 : Fr (fun c j => Nat.beq c 98 && Nat.beq j 12) σ (sI σ 98 12 (nI x)) := Fr.rf.sI rfl
  refine ⟨hH.fr f0 rfl rfl rfl (fun _ => rfl) (fun _ => rfl), sI_ss, hr, hf.tr (f0.mono fun c j q => ?_)⟩
  unfold fkXC
  simp only [Bool.or_eq_true, Bool.and_eq_true, Nat.beq_eq, Nat.ble_eq] at q ⊢
  omega
theorem rx_enter {f tk st rt : Nat} (h : XM σ0 A F s p σ) (h63 : σ0.2.2 98 0 = 63) (hf20 : f < 20) (h65 : σ0.1 65 f = nI tk) (h67 : σ0.1 67 f = nI st) (htk : tk ≤ A.length) (hst : st ≤ 3000) (hrt : rt ≤ 3000) : Dv (d + 1) 226 [.ref 98, .int (nI f), .int (nI rt)] σ (fun σ' => (F.length < 60 ∧ s.2.1 < 5000 ∧ XM σ0 A ((A.length - tk, rt) :: F) (s.1, s.2.1 + 1, max s.2.2 (F.length + 1)) st σ') ∨ (¬ F.length < 60 ∧ XEr σ0 s 3 σ') ∨ (F.length < 60 ∧ ¬ s.2.1 < 5000 ∧ XEr σ0 s 4 σ')) := by
  have h' := h
  obtain ⟨⟨a1, a2, a3⟩, ⟨c1, c2, c3, c4, c5⟩, ⟨b1, b2, b3, b4, b5, b6, b7⟩, h8, h12, hr, hf⟩ := h
  have e63 : σ.2.2 98 0 = 63 := by rw [hr]; exact h63
  have t65 : σ.1 65 f = nI tk := (hf 65 f rfl).1.trans h65
  have t67 : σ.1 67 f = nI st := (hf 67 f rfl).1.trans h67
  have cf : (nI f).toNatClampNeg = f := nI_clamp (by omega)
  have vf : vp_in (nI f) 20 := vp_in_nI hf20 (by decide)
  have m2e : (2 : Int32) * nI F.length = nI (2 * F.length) := by rw [show (2 : Int32) = nI 2 from rfl, nI_mul]
  refine S_Runner_enter e63 ?_
  rw [c1, b4, cf, t65, t67, a1, b6, m2e, (nI_succ (2 * F.length)).symm, (nI_succ F.length).symm, (nI_succ s.2.1).symm, nI_sub htk]
  have ci : (nI (2 * F.length)).toNatClampNeg = 2 * F.length := nI_clamp (by omega)
  have cj : (nI (2 * F.length + 1)).toNatClampNeg = 2 * F.length + 1 := nI_clamp (by omega)
  rw [ci, cj]
  refine ⟨fun y => ?_, fun y => ⟨rfl, Or.inr (Or.inl ⟨fun c => y (nI_lt (a := F.length) (b := 60) c (by decide)), h'.err (x := 3)⟩)⟩⟩
  have lF : F.length < 60 := by
    rcases Nat.lt_or_ge F.length 60 with c | c
    · exact c
    · exact absurd y (nI_nlt (a := F.length) (b := 60) c (by omega))
  refine ⟨fun y2 => ?_, fun y2 => ⟨rfl, Or.inr (Or.inr ⟨lF, fun c => y2 (nI_lt (a := s.2.1) (b := 5000) c (by decide)), h'.err (x := 4)⟩)⟩⟩
  have lO : s.2.1 < 5000 := by
    rcases Nat.lt_or_ge s.2.1 5000 with c | c
    · exact c
    · exact absurd y2 (nI_nlt (a := s.2.1) (b := 5000) c (by omega))
  have em : (if nI s.2.2 < nI (F.length + 1) then nI (F.length + 1) else nI s.2.2) = nI (max s.2.2 (F.length + 1)) := by
    by_cases c : s.2.2 < F.length + 1
    · rw [if_pos (nI_lt c (by omega)), Nat.max_eq_right (Nat.le_of_lt c)]
    · rw [if_neg (nI_nlt (a := s.2.2) (b := F.length + 1) (by omega) (by omega)), Nat.max_eq_left (by omega)]
  rw [em]
  refine ⟨by decide, vf, vp_in_nI (by omega) (by decide), vp_in_nI (by omega) (by decide), by decide, vf, rfl, Or.inl ⟨lF, lO, ?_⟩⟩
  have f0 : Fr (fun c j => Nat.beq c 102 || (Nat.beq c 98 && (Nat.beq j 6 || Nat.beq j 7 || Nat.beq j 8 || Nat.beq j 10 || Nat.beq j 11))) σ (sI (sI (sI (sI (sI (sI (sI σ 98 10 (nI (s.2.1 + 1))) 98 7 (nI (A.length - tk))) 102 (2 * F.length) (nI (A.length - tk))) 102 (2 * F.length + 1) (nI rt)) 98 6 (nI (F.length + 1))) 98 11 (nI (max s.2.2 (F.length + 1)))) 98 8 (nI st)) := ((((((Fr.rf.sI rfl).sI rfl).sI rfl).sI rfl).sI rfl).sI rfl).sI rfl
  refine ⟨⟨(f0 98 4 rfl).1.trans a1, a2, fun i v hv => (f0 101 i rfl).1.trans (a3 i v hv)⟩, ⟨(sI_so (by decide)).trans ((sI_so (by decide)).trans sI_ss), lF, fun i q hq => ?_, ?_, fun q hq => ?_⟩, ⟨(f0 98 9 rfl).1.trans b1, b2, fun i q hq => ⟨(f0 99 _ rfl).1.trans (b3 i q hq).1, (f0 100 _ rfl).1.trans (b3 i q hq).2⟩, ?_, lO, (sI_so (by decide)).trans sI_ss, Nat.max_le.mpr ⟨b7, lF⟩⟩, sI_ss, (f0 98 12 rfl).1.trans h12, hr, hf.tr (f0.mono fun c j q => ?_)⟩
  · rcases rev_last hq with ⟨c, hq⟩ | ⟨c, hq⟩
    · obtain ⟨g1, g2⟩ := c3 i q hq
      refine ⟨?_, ?_⟩
      · exact (congrFun (sI_o (by decide)) _).trans ((congrFun (sI_o (by decide)) _).trans ((congrFun (sI_o (by decide)) _).trans ((sI_so (by omega)).trans ((sI_so (by omega)).trans ((congrFun (sI_o (by decide)) _).trans ((congrFun (sI_o (by decide)) _).trans g1))))))
      · exact (congrFun (sI_o (by decide)) _).trans ((congrFun (sI_o (by decide)) _).trans ((congrFun (sI_o (by decide)) _).trans ((sI_so (by omega)).trans ((sI_so (by omega)).trans ((congrFun (sI_o (by decide)) _).trans ((congrFun (sI_o (by decide)) _).trans g2))))))
    · subst hq
      subst c
      refine ⟨?_, ?_⟩
      · exact (congrFun (sI_o (by decide)) _).trans ((congrFun (sI_o (by decide)) _).trans ((congrFun (sI_o (by decide)) _).trans ((sI_so (by omega)).trans sI_ss)))
      · exact (congrFun (sI_o (by decide)) _).trans ((congrFun (sI_o (by decide)) _).trans ((congrFun (sI_o (by decide)) _).trans sI_ss))
  · intro _
    exact (sI_so (by decide)).trans ((sI_so (by decide)).trans ((sI_so (by decide)).trans ((congrFun (sI_o (by decide)) _).trans ((congrFun (sI_o (by decide)) _).trans sI_ss))))
  · rcases List.mem_cons.mp hq with rfl | hq
    · exact ⟨by show A.length - tk ≤ 12000; omega, hrt⟩
    · exact c5 q hq
  · exact (sI_so (by decide)).trans ((sI_so (by decide)).trans ((sI_so (by decide)).trans ((congrFun (sI_o (by decide)) _).trans ((congrFun (sI_o (by decide)) _).trans ((sI_so (by decide)).trans sI_ss)))))
  · unfold fkXC
    simp only [Bool.or_eq_true, Bool.and_eq_true, Nat.beq_eq, Nat.ble_eq] at q ⊢
    omega
end XE2
