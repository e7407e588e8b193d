/-! READING OF A WHOLE MODULE: the reference -/
section RDM
variable {t : Nat → UInt8} {b n e d : Nat}
/-- all that the reference's reading may change -/
def sMX (b c j : Nat) : Bool := Nat.beq c 139 || (Nat.beq c 103 && (Nat.beq j 40 || Nat.beq j 41 || Nat.beq j 42 || Nat.beq j 43 || Nat.beq j 44 || Nat.beq j 45)) || sTb b c j || sUb b c j || sAb b c j || sMb b c j || sGb b c j || sEb b c j || sLb b c j || sCb b c j
theorem Fr.xT {σ σ' : fkS} (h : Fr (sTb b) σ σ') : Fr (sMX b) σ σ' := h.mono fun c j h => by unfold sMX; rw [h]; simp
theorem Fr.xU {σ σ' : fkS} (h : Fr (sUb b) σ σ') : Fr (sMX b) σ σ' := h.mono fun c j h => by unfold sMX; rw [h]; simp
theorem Fr.xA {σ σ' : fkS} (h : Fr (sAb b) σ σ') : Fr (sMX b) σ σ' := h.mono fun c j h => by unfold sMX; rw [h]; simp
theorem Fr.xM {σ σ' : fkS} (h : Fr (sMb b) σ σ') : Fr (sMX b) σ σ' := h.mono fun c j h => by unfold sMX; rw [h]; simp
theorem Fr.xG {σ σ' : fkS} (h : Fr (sGb b) σ σ') : Fr (sMX b) σ σ' := h.mono fun c j h => by unfold sMX; rw [h]; simp
theorem Fr.xE {σ σ' : fkS} (h : Fr (sEb b) σ σ') : Fr (sMX b) σ σ' := h.mono fun c j h => by unfold sMX; rw [h]; simp
theorem Fr.xL {σ σ' : fkS} (h : Fr (sLb b) σ σ') : Fr (sMX b) σ σ' := h.mono fun c j h => by unfold sMX; rw [h]; simp
theorem Fr.xC {σ σ' : fkS} (h : Fr (sCb b) σ σ') : Fr (sMX b) σ σ' := h.mono fun c j h => by unfold sMX; rw [h]; simp
theorem Fr.xF {σ σ' : fkS} (h : Fr fM σ σ') : Fr (sMX b) σ σ' := h.mono fun c j h => by unfold sMX sTb; rw [h]; simp
theorem Fr.nF {σ σ' : fkS} (h : Fr fM σ σ') : Fr sNd σ σ' := h.mono fun c j h => by
  unfold fM at h
  unfold sNd
  simp only [Bool.or_eq_true, Bool.and_eq_true] at h ⊢
  exact Or.inl h.1
theorem m_sec0 {p : Nat} {m : Md} {σ : fkS} (he : e ≤ n) (h : RM t b n e p σ) (hf : σ.1 103 42 = 0) (hM : MX t b m σ) (hl : lenM m) : Cv (d + 7) 248 [.ref 103, .int (0 : Int32)] σ (fun σ' => YM t b n e (sMX b) (MX t b) (pSe t m 0 p e) σ σ') := by
  have hn4 := h.2.2.2.1
  have hp : pSe t m 0 p e = bR (pNm t e p) fun _ _ => .inl (m, e) := by unfold pSe; rw [if_pos rfl]
  have fx : ∀ {σ σ' : fkS}, Fr sNM σ σ' → Fr (sMX b) σ σ' := fun h => h.mono fun c j h => by
    unfold sNM fM at h
    unfold sMX
    simp only [Bool.or_eq_true, Bool.and_eq_true] at h ⊢
    grind
  have fn : ∀ {σ σ' : fkS}, Fr sNM σ σ' → Fr sNd σ σ' := fun h => h.mono fun c j h => by
    unfold sNM fM at h
    unfold sNd
    simp only [Bool.or_eq_true, Bool.and_eq_true] at h ⊢
    grind
  refine S_M_section ⟨fun z => absurd rfl z, fun _ => ?_⟩
  refine qYI (m_name (d := d + 4) h hf) (fun a q r σ1 hR f1 hv hR1 hf1 => ?_) fun w pl r σ1 hR f1 hZ => ?_
  · refine ⟨fun z => absurd hf1 z, fun _ => ?_⟩
    rw [hR1.2.2.2.2.2.1]
    refine ⟨(fx f1).tr okM_fr.xF, ?_⟩
    rw [hp, hR]
    exact ⟨(hM.nd hl (fn f1)).nd hl okM_fr.nF, hR1.at (by omega), (okM_f _ _).trans hf1⟩
  · refine ⟨fun _ => ⟨fx f1, ?_⟩, fun z => absurd z hZ.nz⟩
    rw [hp, hR]
    exact hZ
/-- a section, by its number -/
theorem m_sec {p id : Nat} {m : Md} {σ : fkS} (he : e ≤ n) (hp8 : 8 ≤ p) (h : RM t b n e p σ) (hf : σ.1 103 42 = 0) (hM : MX t b m σ) (hl : lenM m) (h10 : id = 0 ∨ id = 1 ∨ id = 3 ∨ id = 4 ∨ id = 5 ∨ id = 6 ∨ id = 7 ∨ id = 9 ∨ id = 10) : Cv (d + 8) 248 [.ref 103, .int (nI id)] σ (fun σ' => YM t b n e (sMX b) (MX t b) (pSe t m id p e) σ σ') := by
  have post : ∀ {α : Type} {S : Nat → Nat → Bool} {Rel : α → fkS → Prop} {R : Rr α} {f : α → Md} {σ' : fkS}, pSe t m id p e = bR R (fun x q2 => .inl (f x, q2)) → (∀ {σ σ' : fkS}, Fr S σ σ' → Fr (sMX b) σ σ') → (∀ x, Fr S σ σ' → Rel x σ' → MX t b (f x) σ') → YM t b n e S Rel R σ σ' → YM t b n e (sMX b) (MX t b) (pSe t m id p e) σ σ' := by
    intro α S Rel R f σ' hp hfr hup hy
    obtain ⟨f1, hy⟩ := hy
    refine ⟨hfr f1, ?_⟩
    rw [hp]
    cases R with
    | inl y =>
      obtain ⟨x, q⟩ := y
      exact ⟨hup x f1 hy.1, hy.2⟩
    | inr y => exact hy
  rcases h10 with rfl | rfl | rfl | rfl | rfl | rfl | rfl | rfl | rfl
  · exact m_sec0 (d := d + 1) he h hf hM hl
  · refine (m_sec1 (d := d + 1) h hf).mono fun x σ1 hx => ?_
    obtain ⟨rfl, hu⟩ := Qv_s hx
    exact post (f := setT m) (by unfold pSe; rfl) Fr.xT (fun x f h => hM.upT hl f h) hu
  · refine (m_sec3 (d := d + 1) h hf).mono fun x σ1 hx => ?_
    obtain ⟨rfl, hu⟩ := Qv_s hx
    exact post (f := setU m) (by unfold pSe; rfl) Fr.xU (fun x f h => hM.upU hl f h) hu
  · refine (m_sec4 (d := d + 1) h hf).mono fun x σ1 hx => ?_
    obtain ⟨rfl, hu⟩ := Qv_s hx
    exact post (f := setA m) (by unfold pSe; rfl) Fr.xA (fun x f h => hM.upA hl f h) hu
  · refine (m_sec5 (d := d + 1) h hf).mono fun x σ1 hx => ?_
    obtain ⟨rfl, hu⟩ := Qv_s hx
    exact post (f := setM m) (by unfold pSe; rfl) Fr.xM (fun x f h => hM.upM hl f h) hu
  · refine (m_sec6 (d := d + 1) h hf).mono fun x σ1 hx => ?_
    obtain ⟨rfl, hu⟩ := Qv_s hx
    exact post (f := setG m) (by unfold pSe; rfl) Fr.xG (fun x f h => hM.upG hl f h) hu
  · refine (m_sec7 (d := d + 1) h hf).mono fun x σ1 hx => ?_
    obtain ⟨rfl, hu⟩ := Qv_s hx
    exact post (f := setE m) (by unfold pSe; rfl) Fr.xE (fun x f h => hM.upE hl f h) hu
  · refine (m_sec9 (d := d + 1) h hf).mono fun x σ1 hx => ?_
    obtain ⟨rfl, hu⟩ := Qv_s hx
    exact post (f := setL m) (by unfold pSe; rfl) Fr.xL (fun x f h => hM.upL hl f h) hu
  · refine (m_sec10 (d := d) he hp8 h hf).mono fun x σ1 hx => ?_
    obtain ⟨rfl, hu⟩ := Qv_s hx
    exact post (f := setC m) (by unfold pSe; rfl) Fr.xC (fun x f h => hM.upC hl f h) hu
theorem w_rdM294 {m : Md} {p : Nat} {σ : fkS} (h : RM t b n n p σ) (hf : σ.1 103 42 = 0) (hM : MX t b m σ) (hl : lenM m) {Q : Option Value → fkS → Prop} (kok : pEnd n m p = .inl (m, p) → Q none σ) (kft : ∀ σ', pEnd n m p = .inr (-1, nI n) → Fr fM σ σ' → ZM t b n n (-1) (nI n) σ' → Q none σ') : Wq 240 (d + 9) 294 [some (.ref 103), some (.int (nI n)), none, none, none, none] [] σ Q := by
  have hb := h.1
  have hv : vp_in (σ.1 103 38) 2 := by rw [h.2.1]; exact vp_in_nI hb (by decide)
  have c1 : σ.1 110 b = nI (mdU m).length := hM.2.1.2
  have c2 : σ.1 116 b = nI (mdC m).1.length := hM.2.2.2.2.2.2.2.2.2.1
  have l1 := hl.2.1
  have l2 := hl.2.2.2.2.2.2.2
  refine S_M_reads_294 ⟨hv, hv, ?_⟩
  rw [h.2.1, nI_clamp (by omega), c1, c2]
  refine ⟨fun z => kok ?_, fun z => ?_⟩
  · unfold pEnd
    rw [if_pos ((nI_eq (by omega) (by omega)).mp z)]
  · refine qFails h hf (by decide) fun σ1 hZ f1 => kft σ1 ?_ f1 hZ
    unfold pEnd
    rw [if_neg (fun w => z (by rw [w]))]
theorem w_rdM294z {w pl : Int32} {σ : fkS} (h : ZM t b n e w pl σ) {Q : Option Value → fkS → Prop} (ok : Q none σ) : Wq 240 (d + 9) 294 [some (.ref 103), some (.int (nI n)), none, none, none, none] [] σ Q := by
  obtain ⟨q, hR⟩ := h.1
  have hb := hR.1
  have hv : vp_in (σ.1 103 38) 2 := by rw [hR.2.1]; exact vp_in_nI hb (by decide)
  exact S_M_reads_294 ⟨hv, hv, fun _ => ok, fun _ => yFails h ok⟩
theorem w_rdM140 {σ0 : fkS} {R : Rr Md} {Q : Option Value → fkS → Prop} (kok : ∀ m q σ', R = .inl (m, q) → Fr (sMX b) σ0 σ' → MX t b m σ' → lenM m → RM t b n n q σ' → σ'.1 103 42 = 0 → Q none σ')
    (kft : ∀ w pl σ', R = .inr (w, pl) → Fr (sMX b) σ0 σ' → ZM t b n n w pl σ' ∨ (∃ e, ZM t b n e w pl σ') → Q none σ') :
    ∀ (f k last p : Nat) (m : Md) (σ : fkS), k + f = 4000 → k + 8 ≤ p → last ≤ 11 → bR (pMd t n f last m p) (pEnd n) = R → Fr (sMX b) σ0 σ → RM t b n n p σ → σ.1 103 42 = 0 → MX t b m σ → emp m last → lenM m → Wq 240 (d + 9) 140 [some (.ref 103), some (.int (nI n)), some (.int (nI last)), none, none, none] [] σ Q
  | 0, k, last, p, m, σ, hk, hp, _, _, _, h, hf, _, _, _ => by
    have := h.2.2.2.2.2.2.2
    omega
  | f + 1, k, last, p, m, σ, hk, hp, hla, hR, f0, h, hf, hM, he, hl => by
    have h7 := h.2.2.2.2.2.2.2
    have hb := h.1
    have hn4 := h.2.2.2.1
    have hp1 : σ.1 103 40 = nI p := h.2.2.2.2.2.2.1
    refine S_M_reads_140 ⟨fun z => absurd hf z, fun _ => ?_⟩
    rw [hp1]
    refine ⟨fun z => ?_, fun z => ?_⟩
    · have hz : n ≤ p := (nI_leI (by omega) (by omega)).mp z
      rw [pMd, if_pos hz] at hR
      simp only [bR] at hR
      refine w_rdM294 h hf hM hl (fun hE => ?_) fun σ1 hE f1 hZ => ?_
      · exact kok m p σ (by rw [← hR, hE]) f0 hM hl h hf
      · exact kft _ _ σ1 (by rw [← hR, hE]) (f0.tr f1.xF) (Or.inl hZ)
    · have hz : ¬ n ≤ p := fun y => z (nI_le y (by omega))
      rw [pMd, if_neg hz] at hR
      -- behind a fault
      have z140 : ∀ (w pl : Int32) (σ1 : fkS) (x : Int32), R = .inr (w, pl) → Fr (sMX b) σ0 σ1 → ZM t b n n w pl σ1 → Wq 240 (d + 9) 140 [some (.ref 103), some (.int (nI n)), some (.int x), none, none, none] [] σ1 Q := by
        intro w pl σ1 x hr f1 hZ
        exact S_M_reads_140 ⟨fun _ => w_rdM294z hZ (kft w pl σ1 hr f1 (Or.inl hZ)), fun z => absurd z hZ.nz⟩
      have z228 : ∀ (w pl : Int32) (σ1 : fkS) (x y : Int32), R = .inr (w, pl) → Fr (sMX b) σ0 σ1 → ZM t b n n w pl σ1 → Wq 240 (d + 9) 228 [some (.ref 103), some (.int (nI n)), some (.int x), none, some (.int y), none] [] σ1 Q := by
        intro w pl σ1 x y hr f1 hZ
        refine S_M_reads_228 ?_
        have hs : Ci (d + 8) 245 [.ref 103] σ1 (fun r σ' => r = 0 ∧ σ' = σ1) := by
          refine S_M_sizeOf (y0J (c_u32_z (d := d + 6) hZ.nz) ⟨fun _ => ⟨fun z => absurd z hZ.nz, fun _ => ⟨rfl, rfl⟩⟩, fun _ => yFails hZ ⟨fun z => absurd z hZ.nz, fun _ => ⟨rfl, rfl⟩⟩⟩)
        refine y0I hs ⟨fun z => absurd z hZ.nz, fun _ => kft w pl σ1 hr f1 (Or.inl hZ)⟩
      refine qI h hf (mN h hf) (fun id q r hN hv hR1 hf1 => ?_) fun w pl r σ1 hN hr0 hZ f1 => ?_
      · subst hv
        obtain ⟨-, hid, hq, hpn⟩ := nN_l hN
        have ho : id < 256 := by have := (t p).toNat_lt; omega
        have hq2 : ∀ {b : Nat} {x : Int32}, b < 256 → x = nI b → (nI id = x ↔ id = b) := fun hb hx => op_nat ho hb hx
        have hpi : pId t n last p = if id = 2 ∨ id = 8 ∨ id = 11 then .inr (-2, nI p) else if 11 < id ∨ (id ≠ 0 ∧ id ≤ last) then .inr (-1, nI p) else bR (rZ t n q) fun B q2 => .inl ((id, B), q2) := by unfold pId; rw [hN]; rfl
        have bad : ∀ w : Int32, w ≠ 0 → pId t n last p = .inr (w, nI p) → Cv (d + 8) 244 [.ref 103, .int w, .int (nI p)] (okM σ q) (fun σ3 => ((nI id = 0 → Wq 240 (d + 9) 228 [some (.ref 103), some (.int (nI n)), some (.int (nI last)), none, some (.int (nI id)), none] [] σ3 Q) ∧ (¬ nI id = 0 → Wq 240 (d + 9) 228 [some (.ref 103), some (.int (nI n)), some (.int (nI id)), none, some (.int (nI id)), none] [] σ3 Q))) := by
          intro w hw hb2
          rw [hb2] at hR
          refine qFails hR1 hf1 hw fun σ2 hZ f2 => ?_
          have fr := f0.tr (okM_fr.xF.tr f2.xF)
          exact ⟨fun _ => z228 w _ σ2 _ _ hR.symm fr hZ, fun _ => z228 w _ σ2 _ _ hR.symm fr hZ⟩
        have good : ¬ (id = 2 ∨ id = 8 ∨ id = 11) → ¬ (11 < id ∨ (id ≠ 0 ∧ id ≤ last)) → Wq 240 (d + 9) 228 [some (.ref 103), some (.int (nI n)), some (.int (nI (if id = 0 then last else id))), none, some (.int (nI id)), none] [] (okM σ q) Q := by
          intro g1 g2
          rw [if_neg g1, if_neg g2] at hpi
          rw [hpi] at hR
          refine S_M_reads_228 ?_
          refine qI hR1 hf1 (c_sizeOf hR1 hf1) (fun B q2 r hZs hv hR2 hf2 => ?_) fun w pl r σ2 hZs hr0 hZ f2 => ?_
          · subst hv
            obtain ⟨hz1, hz2, hz3⟩ := rZ_l2 hZs
            rw [hZs] at hR hpi
            simp only [bR] at hR hpi
            obtain ⟨i1, i2, i3, i4⟩ := pId_l hpi
            refine ⟨fun _ => ?_, fun z => absurd hf2 z⟩
            rw [hR2.2.2.2.2.2.2.1, nI_add]
            have g3 : RM t b n (q2 + B) q2 (sI (okM (okM σ q) q2) 103 41 (nI (q2 + B))) := rm_end hR2 hz3
            have g4 : (sI (okM (okM σ q) q2) 103 41 (nI (q2 + B))).1 103 42 = 0 := g0_41 hf2
            have fr1 : Fr (sMX b) σ0 (sI (okM (okM σ q) q2) 103 41 (nI (q2 + B))) := ((f0.tr okM_fr.xF).tr okM_fr.xF).sI rfl
            have hM1 : MX t b m (sI (okM (okM σ q) q2) 103 41 (nI (q2 + B))) := ((hM.nd hl okM_fr.nF).nd hl okM_fr.nF).nd hl (Fr.rf.sI rfl)
            refine qY (m_sec (d := d) hz3 (by omega) g3 g4 hM1 hl i2) (fun m2 q3 σ3 hS f3 hM2 hR3 hf3 => ?_) fun w pl σ3 hS f3 hZ => ?_
            · have hle := pSe_le (by omega) hS
              obtain ⟨s1, s2⟩ := pSe_l hS hl he i1 i2
              rw [hS] at hR
              simp only at hR
              refine ⟨fun z => absurd hf3 z, fun _ => ?_⟩
              rw [hR3.2.2.2.2.2.1, hR3.2.2.2.2.2.2.1]
              have h7' := hR3.2.2.2.2.2.2.2
              refine ⟨fun y => ?_, fun y => ?_⟩
              · have hlt : ¬ q3 < q2 + B := fun w => nI_ge w (by omega) y
                rw [if_neg hlt] at hR
                exact w_rdM140 kok kft f (k + 1) (if id = 0 then last else id) q3 m2 _ (by omega) (by omega) (by split <;> omega) hR ((fr1.tr f3).sI rfl) (rm_end hR3 (Nat.le_refl n)) (g0_41 hf3) (hM2.nd s1 (Fr.rf.sI rfl)) s2 s1
              · have hlt : q3 < q2 + B := Nat.not_le.mp fun w => y (nI_le w (by omega))
                rw [if_pos hlt] at hR
                refine qFails hR3 hf3 (by decide) fun σ4 hZ4 f4 => ?_
                exact z140 _ _ _ _ hR.symm (((fr1.tr f3).tr f4.xF).sI rfl) (zm_end hZ4 (Nat.le_refl n))
            · rw [hS] at hR
              refine ⟨fun _ => ?_, fun z => absurd z hZ.nz⟩
              exact z140 _ _ _ _ hR.symm ((fr1.tr f3).sI rfl) (zm_end hZ (Nat.le_refl n))
          · rw [hZs] at hR
            exact ⟨fun z => absurd z hZ.nz, fun _ => kft w pl σ2 hR.symm (f0.tr (okM_fr.xF.tr f2.xF)) (Or.inl hZ)⟩
        have good2 : ¬ (id = 2 ∨ id = 8 ∨ id = 11) → ¬ (11 < id ∨ (id ≠ 0 ∧ id ≤ last)) → ((nI id = 0 → Wq 240 (d + 9) 228 [some (.ref 103), some (.int (nI n)), some (.int (nI last)), none, some (.int (nI id)), none] [] (okM σ q) Q) ∧ (¬ nI id = 0 → Wq 240 (d + 9) 228 [some (.ref 103), some (.int (nI n)), some (.int (nI id)), none, some (.int (nI id)), none] [] (okM σ q) Q)) := by
          intro g1 g2
          have g := good g1 g2
          refine ⟨fun y => ?_, fun y => ?_⟩
          · rw [if_pos ((hq2 (b := 0) (by decide) rfl).mp y)] at g
            exact g
          · rw [if_neg (fun w => y (by rw [w]; rfl))] at g
            exact g
        refine ⟨fun z2 => bad _ (by decide) ?_, fun z2 => ⟨fun z8 => bad _ (by decide) ?_, fun z8 => ⟨fun z11 => ⟨fun zz => bad _ (by decide) ?_, fun zz => ⟨fun z0 => good2 ?_ ?_, fun z0 => ⟨fun zl => good2 ?_ ?_, fun zl => bad _ (by decide) ?_⟩⟩⟩, fun z11 => bad _ (by decide) ?_⟩⟩⟩
        · rw [hpi, if_pos (Or.inl ((hq2 (by decide) rfl).mp z2))]
        · rw [hpi, if_pos (Or.inr (Or.inl ((hq2 (by decide) rfl).mp z8)))]
        all_goals (try (have n2 : id ≠ 2 := fun y => z2 ((hq2 (by decide) rfl).mpr y)))
        all_goals (try (have n8 : id ≠ 8 := fun y => z8 ((hq2 (by decide) rfl).mpr y)))
        all_goals (try (have n11 : id ≠ 11 := fun y => z11 ((hq2 (by decide) rfl).mpr y)))
        · have := (nI_ltI (a := 11) (by decide) (by omega)).mp zz
          rw [hpi, if_neg (by omega), if_pos (Or.inl this)]
        · omega
        · have := (hq2 (b := 0) (by decide) rfl).mp z0
          omega
        · omega
        · have h1 : ¬ 11 < id := fun y => zz ((nI_ltI (a := 11) (by decide) (by omega)).mpr y)
          have h2 : last < id := (nI_ltI (by omega) (by omega)).mp zl
          omega
        · have h2 : ¬ last < id := fun y => zl ((nI_ltI (by omega) (by omega)).mpr y)
          have h3 : id ≠ 0 := fun y => z0 ((hq2 (b := 0) (by decide) rfl).mpr y)
          rw [hpi, if_neg (by omega), if_pos (Or.inr ⟨h3, by omega⟩)]
        · rw [hpi, if_pos (Or.inr (Or.inr ((hq2 (by decide) rfl).mp z11)))]
      · subst hr0
        have hpi : pId t n last p = .inr (w, pl) := by unfold pId; rw [hN]; rfl
        rw [hpi] at hR
        have fin := fun x y => z228 w pl σ1 x y hR.symm (f0.tr f1.xF) hZ
        refine ⟨fun z => absurd z (by decide), fun _ => ⟨fun z => absurd z (by decide), fun _ => ⟨fun _ => ⟨fun z => absurd z (by decide), fun _ => ⟨fun _ => ⟨fun _ => fin _ _, fun z => absurd rfl z⟩, fun z => absurd rfl z⟩⟩, fun z => absurd z (by decide)⟩⟩⟩
end RDM
