/-! READING OF A WHOLE MODULE: the reference, from its beginning -/
section RDM2
variable {t : Nat → UInt8} {b n e d : Nat}
theorem MX.zero {σ : fkS} (h6 : σ.1 106 b = 0) (h0 : σ.1 110 b = 0) (h1 : σ.1 111 b = 0) (h2 : σ.1 112 b = 0) (h3 : σ.1 113 b = 0) (h4 : σ.1 114 b = 0) (h5 : σ.1 115 b = 0) (h7 : σ.1 116 b = 0) : MX t b md0 σ := by
  have a1 : MT t b [] σ := ⟨fun k x hx => (by cases hx), h6⟩
  have a2 : MU b [] σ := ⟨fun k x hx => (by cases hx), h0⟩
  have a3 : MA b [] σ := ⟨fun k x hx => (by cases hx), h1⟩
  have a4 : MM b [] σ := ⟨fun k x hx => (by cases hx), h2⟩
  have a5 : MG b [] σ := ⟨fun k x hx => (by cases hx), h3⟩
  have a6 : ME b [] σ := ⟨fun k x hx => (by cases hx), h4⟩
  have a7 : ML b [] σ := ⟨fun k x hx => (by cases hx), h5⟩
  have c1 : ∀ (k : Nat) (f : Fi), ([] : List Fi)[k]? = some f → qC b k f σ := fun k f hf => by cases hf
  have c2 : RCd [] b σ := fun k i o x r hi => by cases hi
  have c3 : posI t [] 4000 := ⟨fun k i hi => (by cases hi), fun k1 k2 i1 i2 _ h1 => (by cases h1)⟩
  exact ⟨a1, a2, a3, a4, a5, a6, a7, c1, c2, h7, c3, rfl⟩
def mHd (t : Nat → UInt8) (n : Nat) (l : List Int32) (p : Nat) : Rr Unit := match l with
  | [] => .inl ((), p)
  | v :: l => bR (rX v t n p) fun _ q => mHd t n l q
theorem pHd_m (t : Nat → UInt8) (n : Nat) : pHd t n 8 0 0 = mHd t n [0, 97, 115, 109, 1, 0, 0, 0] 0 := rfl
theorem m_reads {σ : fkS} (hb : b < 2) (h38 : σ.1 103 38 = nI b) (hn : n ≤ 4000) (hT : ∀ k, k < n → σ.1 105 (4000 * b + k) = bI (t k)) : Cv (d + 10) 240 [.ref 103, .int (nI n)] σ (fun σ' => Fr (sMX b) σ σ' ∧ match pMo t n with
      | .inl (m, _) => MX t b m σ' ∧ lenM m ∧ σ'.1 103 42 = 0
      | .inr (w, pl) => w ≠ 0 ∧ σ'.1 103 42 = w ∧ σ'.1 103 43 = pl) := by
  have hv : vp_in (σ.1 103 38) 2 := by rw [h38]; exact vp_in_nI hb (by decide)
  refine S_M_reads ⟨hv, hv, hv, hv, hv, hv, hv, hv, ?_⟩
  rw [h38, nI_clamp (by omega)]
  generalize hτ : sI (sI (sI (sI (sI (sI (sI (sI (sI (sI (sI σ 103 40 (0 : Int32)) 103 41 (nI n)) 103 42 (0 : Int32)) 106 b (0 : Int32)) 110 b (0 : Int32)) 111 b (0 : Int32)) 112 b (0 : Int32)) 113 b (0 : Int32)) 114 b (0 : Int32)) 115 b (0 : Int32)) 116 b (0 : Int32) = τ
  have g1 : RM t b n n 0 τ := by subst hτ; exact ⟨hb, h38, hT, hn, Nat.le_refl _, rfl, rfl, by decide⟩
  have g2 : τ.1 103 42 = 0 := by subst hτ; rfl
  have g3 : MX t b md0 τ := by
    subst hτ
    have r : ∀ (υ : fkS) (c c2 : Nat), c2 ≠ c → υ.1 c2 b = 0 → (sI υ c b (0 : Int32)).1 c2 b = 0 := fun υ c c2 hc h0 => by
      rw [sI_o hc]
      exact h0
    refine MX.zero ?_ ?_ ?_ ?_ ?_ ?_ ?_ sI_ss
    · exact r _ _ _ (by decide) (r _ _ _ (by decide) (r _ _ _ (by decide) (r _ _ _ (by decide) (r _ _ _ (by decide) (r _ _ _ (by decide) (r _ _ _ (by decide) sI_ss))))))
    · exact r _ _ _ (by decide) (r _ _ _ (by decide) (r _ _ _ (by decide) (r _ _ _ (by decide) (r _ _ _ (by decide) (r _ _ _ (by decide) sI_ss)))))
    · exact r _ _ _ (by decide) (r _ _ _ (by decide) (r _ _ _ (by decide) (r _ _ _ (by decide) (r _ _ _ (by decide) sI_ss))))
    · exact r _ _ _ (by decide) (r _ _ _ (by decide) (r _ _ _ (by decide) (r _ _ _ (by decide) sI_ss)))
    · exact r _ _ _ (by decide) (r _ _ _ (by decide) (r _ _ _ (by decide) sI_ss))
    · exact r _ _ _ (by decide) (r _ _ _ (by decide) sI_ss)
    · exact r _ _ _ (by decide) sI_ss
  have g4 : Fr (sMX b) σ τ := by
    subst hτ
    have e1 : sMX b 103 40 = true ∧ sMX b 103 41 = true ∧ sMX b 103 42 = true := ⟨rfl, rfl, rfl⟩
    have e2 : sMX b 106 b = true ∧ sMX b 110 b = true ∧ sMX b 111 b = true ∧ sMX b 112 b = true ∧ sMX b 113 b = true ∧ sMX b 114 b = true ∧ sMX b 115 b = true ∧ sMX b 116 b = true := by
      unfold sMX sTb sUb sAb sMb sGb sEb sLb sCb
      simp
    obtain ⟨a1, a2, a3, a4, a5, a6, a7, a8⟩ := e2
    exact ((((((((((Fr.rf.sI rfl).sI rfl).sI rfl).sI a1).sI a2).sI a3).sI a4).sI a5).sI a6).sI a7).sI a8
  clear hτ
  have hpm : pMo t n = bR (mHd t n [0, 97, 115, 109, 1, 0, 0, 0] 0) fun _ p => bR (pMd t n 4000 0 md0 p) (pEnd n) := rfl
  -- the header, byte by byte
  have zall : ∀ (l : List Int32) (w pl : Int32) (σ1 : fkS) (K : fkS → Prop), ZM t b n n w pl σ1 → K σ1 → True := fun _ _ _ _ _ _ _ => trivial
  have stp : ∀ (v : Int32) (l : List Int32) (p : Nat) (σ1 : fkS) (K : fkS → Prop), Fr (sMX b) σ σ1 ∧ RM t b n n p σ1 ∧ σ1.1 103 42 = 0 ∧ MX t b md0 σ1 →
      (∀ q σ2, mHd t n (v :: l) p = mHd t n l q → q = p + 1 → Fr (sMX b) σ σ2 ∧ RM t b n n q σ2 ∧ σ2.1 103 42 = 0 ∧ MX t b md0 σ2 → K σ2) →
      (∀ w pl σ2, mHd t n (v :: l) p = .inr (w, pl) → Fr (sMX b) σ σ2 → ZM t b n n w pl σ2 → K σ2) → Cv (d + 9) 241 [.ref 103, .int v] σ1 K := by
    intro v l p σ1 K h k1 k2
    obtain ⟨f1, hR, hf, hM⟩ := h
    refine qV hR hf (c_must (d := d + 6) hR hf) (fun _ q hX hR1 hf1 => ?_) fun w pl σ2 hX hZ f2 => ?_
    · refine k1 q _ ?_ (rX_q hX).1 ⟨f1.tr okM_fr.xF, hR1, hf1, hM.nd (by unfold lenM; decide) okM_fr.nF⟩
      rw [mHd, hX]
      rfl
    · refine k2 w pl σ2 ?_ (f1.tr f2.xF) hZ
      rw [mHd, hX]
      rfl
  have zfin : ∀ (w pl : Int32) (σ1 : fkS), pMo t n = .inr (w, pl) → Fr (sMX b) σ σ1 → ZM t b n n w pl σ1 → Wq 240 (d + 10) 140 [some (.ref 103), some (.int (nI n)), some (.int (0 : Int32)), none, none, none] [] σ1 (Qv fun σ' => Fr (sMX b) σ σ' ∧ match pMo t n with
      | .inl (m, _) => MX t b m σ' ∧ lenM m ∧ σ'.1 103 42 = 0
      | .inr (w, pl) => w ≠ 0 ∧ σ'.1 103 42 = w ∧ σ'.1 103 43 = pl) := by
    intro w pl σ1 hp f1 hZ
    refine S_M_reads_140 ⟨fun _ => w_rdM294z (d := d + 1) (e := n) hZ ⟨f1, ?_⟩, fun z => absurd z hZ.nz⟩
    rw [hp]
    exact hZ.2
  have zm : ∀ (v : Int32) (w pl : Int32) (σ1 : fkS) (K : fkS → Prop), ZM t b n n w pl σ1 → K σ1 → Cv (d + 9) 241 [.ref 103, .int v] σ1 K := fun v w pl σ1 K hZ hk => y0V (c_mustz (d := d + 6) hZ.nz) hk
  refine stp 0 [97, 115, 109, 1, 0, 0, 0] 0 τ _ ⟨g4, g1, g2, g3⟩ (fun q1 σ1 e1 _ h1 => ?_) fun w pl σ1 he f1 hZ => zm _ w pl _ _ hZ (zm _ w pl _ _ hZ (zm _ w pl _ _ hZ (zm _ w pl _ _ hZ (zm _ w pl _ _ hZ (zm _ w pl _ _ hZ (zm _ w pl _ _ hZ (zfin w pl σ1 (by rw [hpm, he]; rfl) f1 hZ)))))))
  refine stp 97 [115, 109, 1, 0, 0, 0] q1 σ1 _ h1 (fun q2 σ2 e2 _ h2 => ?_) fun w pl σ2 he f1 hZ => zm _ w pl _ _ hZ (zm _ w pl _ _ hZ (zm _ w pl _ _ hZ (zm _ w pl _ _ hZ (zm _ w pl _ _ hZ (zm _ w pl _ _ hZ (zfin w pl σ2 (by rw [hpm, e1, he]; rfl) f1 hZ))))))
  refine stp 115 [109, 1, 0, 0, 0] q2 σ2 _ h2 (fun q3 σ3 e3 _ h3 => ?_) fun w pl σ3 he f1 hZ => zm _ w pl _ _ hZ (zm _ w pl _ _ hZ (zm _ w pl _ _ hZ (zm _ w pl _ _ hZ (zm _ w pl _ _ hZ (zfin w pl σ3 (by rw [hpm, e1, e2, he]; rfl) f1 hZ)))))
  refine stp 109 [1, 0, 0, 0] q3 σ3 _ h3 (fun q4 σ4 e4 _ h4 => ?_) fun w pl σ4 he f1 hZ => zm _ w pl _ _ hZ (zm _ w pl _ _ hZ (zm _ w pl _ _ hZ (zm _ w pl _ _ hZ (zfin w pl σ4 (by rw [hpm, e1, e2, e3, he]; rfl) f1 hZ))))
  refine stp 1 [0, 0, 0] q4 σ4 _ h4 (fun q5 σ5 e5 _ h5 => ?_) fun w pl σ5 he f1 hZ => zm _ w pl _ _ hZ (zm _ w pl _ _ hZ (zm _ w pl _ _ hZ (zfin w pl σ5 (by rw [hpm, e1, e2, e3, e4, he]; rfl) f1 hZ)))
  refine stp 0 [0, 0] q5 σ5 _ h5 (fun q6 σ6 e6 _ h6 => ?_) fun w pl σ6 he f1 hZ => zm _ w pl _ _ hZ (zm _ w pl _ _ hZ (zfin w pl σ6 (by rw [hpm, e1, e2, e3, e4, e5, he]; rfl) f1 hZ))
  refine stp 0 [0] q6 σ6 _ h6 (fun q7 σ7 e7 _ h7 => ?_) fun w pl σ7 he f1 hZ => zm _ w pl _ _ hZ (zfin w pl σ7 (by rw [hpm, e1, e2, e3, e4, e5, e6, he]; rfl) f1 hZ)
  refine stp 0 [] q7 σ7 _ h7 (fun q8 σ8 e8 e9 h8 => ?_) fun w pl σ8 he f1 hZ => zfin w pl σ8 (by rw [hpm, e1, e2, e3, e4, e5, e6, e7, he]; rfl) f1 hZ
  obtain ⟨f8, hR8, hf8, hM8⟩ := h8
  have hq8 : 8 ≤ q8 := by omega
  have hpm2 : pMo t n = bR (pMd t n 4000 0 md0 q8) (pEnd n) := by rw [hpm, e1, e2, e3, e4, e5, e6, e7, e8]; rfl
  rw [hpm2]
  refine w_rdM140 (d := d + 1) (b := b) (t := t) (σ0 := σ) (R := bR (pMd t n 4000 0 md0 q8) (pEnd n)) (fun m q σ' hr f hM hl _ hf => ⟨f, ?_⟩) (fun w pl σ' hr f hZ => ⟨f, ?_⟩) 4000 0 0 q8 md0 σ8 (by decide) (by omega) (by decide) rfl f8 hR8 hf8 hM8 ⟨fun _ => rfl, fun _ => rfl, fun _ => rfl, fun _ => rfl, fun _ => rfl, fun _ => rfl, fun _ => rfl, fun _ => rfl⟩ (by unfold lenM; decide)
  · rw [hr]
    exact ⟨hM, hl, hf⟩
  · rw [hr]
    rcases hZ with hZ | ⟨e, hZ⟩
    · exact hZ.2
    · exact hZ.2
end RDM2
