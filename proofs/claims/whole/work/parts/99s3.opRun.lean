/-! run: both sides -/
section OPRUN2
variable {t : Nat → UInt8} {n b d f N : Nat} {m : Md} {σ σ' : fkS} {e : Env} {J : fkS → Prop} {P : Int32 → fkS → Prop} {a0 a1 : Int32}
theorem op_run (h03 : σ.2.2 0 3 = 4) (hK : KN σ) (hA : rA σ) (hTB : TB σ) (a0 a1 : Int32) (hJ0 : J σ) (hJ : ∀ σ', KN σ' → rO σ' → Fr sRa σ σ' → J σ') : Ci (d + 420) 104 [.ref 0, .int a0, .int a1] σ (fun r σ1 => Ci (d + 420) 296 [.ref 103, .int a0, .int a1] σ1 (fun r2 σ2 => r = r2 ∧ J σ2)) := by
  rcases hK with ⟨h1, h2, -⟩ | ⟨t, n, m, b, h1, h2, hb, h37, hok, hY, hrv, hM, h105, h560, h561, ⟨p, mm, hV⟩, hcan⟩
  · exact S_X_run (d := d + 419) h03 ⟨fun _ => S_M_run (d := d + 419) ⟨fun _ => ⟨rfl, hJ0⟩, fun z => absurd h2 z⟩, fun z => absurd h1 z⟩
  have n1 : ¬ σ.1 0 5 = 0 := by rw [h1]; decide
  have n2 : ¬ σ.1 103 39 = 0 := by rw [h2]; decide
  have l6 : (mdE m).length ≤ 60 := hok.1.2.2.2.2.2.1
  have hn4 : n ≤ 4000 := hok.2.2.2.2.2.1
  have fits : ∀ {N : Nat}, N ≤ 20000 → ¬ (nI N < 0 ∨ ¬ nI N ≤ 20000) := fun hN z => by
    rcases z with z | z
    · exact nI_pos (by omega) z
    · exact z (nI_le (b := 20000) hN (by decide))
  by_cases hr : ∃ f, runF m a0 f
  · obtain ⟨f, hr⟩ := hr
    have noz : ∀ {X : Prop}, (∀ f, ¬ runF m a0 f) → X := fun h => absurd hr (h f)
    refine c_run (d := d + 419) h03 n1 hok hY (fun h => noz h) (fun f2 hr2 hbad => ?_) fun f2 N hr2 hNa hN => ?_
    · exact m_run (d := d + 419) n2 hok hb h37 hM (fun h => noz h) (fun _ _ _ => ⟨rfl, hJ0⟩) fun f3 N3 _ hN3 hle => absurd hbad (by rw [hN3]; exact fits hle)
    · have hff := runF.one l6 hr hr2
      subst hff
      subst hNa
      obtain ⟨v1, v2, v3, v4, v5, v6, v7⟩ := id hV
      have hfU : f < (mdU m).length := by
        obtain ⟨k, x, -, -, -, -, q, -⟩ := hr
        exact q
      have ha8 : agN m f ≤ 8 := by
        obtain ⟨k, x, -, -, -, -, -, q⟩ := hr
        exact q
      have hof : okFn t n m f := ⟨hok, hfU⟩
      have hX : SX t n m σ := ⟨hok, hY, hrv, h560, h561, v5, fun k hk => (v6 k hk).1⟩
      have he : evOk m (fun k => σ.2.1 146 k, mm, p) := ⟨fun k x hx => hcan k x hx, v1⟩
      have hen : envX m (fun k => σ.2.1 146 k, mm, p) σ := ⟨fun k hk => v7 k hk, fun k hk => (v4 k hk).1, v2⟩
      refine x_start (d := d + 413) hX hfU ha8 hN he hen fun k s' σ7 hs' hE ht8 e7 f7 g14 g15 g16 gen => ?_
      -- the class's answer is put down
      have f8 : Fr (fun c j => (Nat.beq c 0 && (Nat.beq j 15 || Nat.beq j 16 || Nat.beq j 17)) || sRg c j) σ (sI (sI (sL σ7 0 15 (σ7.2.1 56 16)) 0 16 (σ7.1 56 14)) 0 17 (σ7.1 56 15)) := (((f7.mono fun c j h => by
        show (_ || sRg c j) = true
        rw [h, Bool.or_true]).sL rfl).sI rfl).sI rfl
      have r15 : (sI (sI (sL σ7 0 15 (σ7.2.1 56 16)) 0 16 (σ7.1 56 14)) 0 17 (σ7.1 56 15)).2.1 0 15 = ruG m f s' := by
        show (sL σ7 0 15 (σ7.2.1 56 16)).2.1 0 15 = _
        rw [sL_ss, g16]
      have r16 : (sI (sI (sL σ7 0 15 (σ7.2.1 56 16)) 0 16 (σ7.1 56 14)) 0 17 (σ7.1 56 15)).1 0 16 = nI (sK s') := by
        rw [← g14]
        rfl
      have r17 : (sI (sI (sL σ7 0 15 (σ7.2.1 56 16)) 0 16 (σ7.1 56 14)) 0 17 (σ7.1 56 15)).1 0 17 = nI (sT s') := by
        rw [← g15]
        exact sI_ss
      have gen8 : envX m (sE s') (sI (sI (sL σ7 0 15 (σ7.2.1 56 16)) 0 16 (σ7.1 56 14)) 0 17 (σ7.1 56 15)) := gen.fr (S := fun c j => Nat.beq c 0) (((Fr.rf.sL rfl).sI rfl).sI rfl) (fun _ => rfl) (fun _ => rfl) rfl
      show Ci (d + 420) 296 _ (sI (sI (sL σ7 0 15 (σ7.2.1 56 16)) 0 16 (σ7.1 56 14)) 0 17 (σ7.1 56 15)) _
      generalize sI (sI (sL σ7 0 15 (σ7.2.1 56 16)) 0 16 (σ7.1 56 14)) 0 17 (σ7.1 56 15) = σ8 at f8 r15 r16 r17 gen8 ⊢
      have z8 : ∀ {c j : Nat}, c ≠ 0 → c < 56 ∨ 61 < c → ((Nat.beq c 0 && (Nat.beq j 15 || Nat.beq j 16 || Nat.beq j 17)) || sRg c j) = false := fun {c j} hc h => by
        cases hh : ((Nat.beq c 0 && (Nat.beq j 15 || Nat.beq j 16 || Nat.beq j 17)) || sRg c j)
        · rfl
        · rw [Bool.or_eq_true] at hh
          rcases hh with hh | hh
          · simp only [Bool.or_eq_true, Bool.and_eq_true, Nat.beq_eq] at hh
            exact absurd hh.1 hc
          · have := sRg_lo hh
            omega
      have q8 : ∀ {c j : Nat}, 61 < c → σ8.1 c j = σ.1 c j ∧ σ8.2.1 c j = σ.2.1 c j := fun {c j} h => ⟨(f8 c j (z8 (by omega) (.inr h))).1, (f8 c j (z8 (by omega) (.inr h))).2.1⟩
      have hM8 : MX t b m σ8 := hM.frB hok.1 f8 (bkF0_lo fun c j a1 a2 => z8 (by omega) (.inr (by omega)))
      refine m_run (d := d + 419) (by rw [(q8 (by decide)).1]; exact n2) hok hb ((q8 (by decide)).1.trans h37) hM8 (fun h => noz h) (fun f3 _ hbad => absurd hbad (fits hN)) fun f3 N3 hr3 hN3 hle => ?_
      have hff := runF.one l6 hr hr3
      subst hff
      have hNN := (nI_eq (by omega) (by omega)).mp hN3
      subst hNN
      -- the reference's run
      have fz : Fr sRf σ8 (sI (sI (sI (sI (sI (sI (sI (sI (sI (sI σ8 103 38 (nI b)) 103 42 (0 : Int32)) 103 41 (4000 : Int32)) 103 66 (0 : Int32)) 103 67 (nI N)) 103 68 (0 : Int32)) 103 69 (0 : Int32)) 103 70 (0 : Int32)) 103 74 (0 : Int32)) 103 71 (0 : Int32)) := (((((((((Fr.rf.sI rfl).sI rfl).sI rfl).sI rfl).sI rfl).sI rfl).sI rfl).sI rfl).sI rfl).sI rfl
      have fzn : Fr (fun c j => Nat.beq c 103 && (Nat.beq j 38 || Nat.beq j 41 || Nat.beq j 42 || (Nat.ble 66 j && Nat.ble j 74))) σ8 (sI (sI (sI (sI (sI (sI (sI (sI (sI (sI σ8 103 38 (nI b)) 103 42 (0 : Int32)) 103 41 (4000 : Int32)) 103 66 (0 : Int32)) 103 67 (nI N)) 103 68 (0 : Int32)) 103 69 (0 : Int32)) 103 70 (0 : Int32)) 103 74 (0 : Int32)) 103 71 (0 : Int32)) := (((((((((Fr.rf.sI rfl).sI rfl).sI rfl).sI rfl).sI rfl).sI rfl).sI rfl).sI rfl).sI rfl).sI rfl
      have w37 : (sI (sI (sI (sI (sI (sI (sI (sI (sI (sI σ8 103 38 (nI b)) 103 42 (0 : Int32)) 103 41 (4000 : Int32)) 103 66 (0 : Int32)) 103 67 (nI N)) 103 68 (0 : Int32)) 103 69 (0 : Int32)) 103 70 (0 : Int32)) 103 74 (0 : Int32)) 103 71 (0 : Int32)).1 103 37 = nI b := (q8 (by decide)).1.trans h37
      have w38 : (sI (sI (sI (sI (sI (sI (sI (sI (sI (sI σ8 103 38 (nI b)) 103 42 (0 : Int32)) 103 41 (4000 : Int32)) 103 66 (0 : Int32)) 103 67 (nI N)) 103 68 (0 : Int32)) 103 69 (0 : Int32)) 103 70 (0 : Int32)) 103 74 (0 : Int32)) 103 71 (0 : Int32)).1 103 38 = nI b := rfl
      have w41 : (sI (sI (sI (sI (sI (sI (sI (sI (sI (sI σ8 103 38 (nI b)) 103 42 (0 : Int32)) 103 41 (4000 : Int32)) 103 66 (0 : Int32)) 103 67 (nI N)) 103 68 (0 : Int32)) 103 69 (0 : Int32)) 103 70 (0 : Int32)) 103 74 (0 : Int32)) 103 71 (0 : Int32)).1 103 41 = nI 4000 := rfl
      have w42 : (sI (sI (sI (sI (sI (sI (sI (sI (sI (sI σ8 103 38 (nI b)) 103 42 (0 : Int32)) 103 41 (4000 : Int32)) 103 66 (0 : Int32)) 103 67 (nI N)) 103 68 (0 : Int32)) 103 69 (0 : Int32)) 103 70 (0 : Int32)) 103 74 (0 : Int32)) 103 71 (0 : Int32)).1 103 42 = 0 := rfl
      have w66 : (sI (sI (sI (sI (sI (sI (sI (sI (sI (sI σ8 103 38 (nI b)) 103 42 (0 : Int32)) 103 41 (4000 : Int32)) 103 66 (0 : Int32)) 103 67 (nI N)) 103 68 (0 : Int32)) 103 69 (0 : Int32)) 103 70 (0 : Int32)) 103 74 (0 : Int32)) 103 71 (0 : Int32)).1 103 66 = nI 0 := rfl
      have w67 : (sI (sI (sI (sI (sI (sI (sI (sI (sI (sI σ8 103 38 (nI b)) 103 42 (0 : Int32)) 103 41 (4000 : Int32)) 103 66 (0 : Int32)) 103 67 (nI N)) 103 68 (0 : Int32)) 103 69 (0 : Int32)) 103 70 (0 : Int32)) 103 74 (0 : Int32)) 103 71 (0 : Int32)).1 103 67 = nI N := rfl
      have w68 : (sI (sI (sI (sI (sI (sI (sI (sI (sI (sI σ8 103 38 (nI b)) 103 42 (0 : Int32)) 103 41 (4000 : Int32)) 103 66 (0 : Int32)) 103 67 (nI N)) 103 68 (0 : Int32)) 103 69 (0 : Int32)) 103 70 (0 : Int32)) 103 74 (0 : Int32)) 103 71 (0 : Int32)).1 103 68 = 0 := rfl
      have w69 : (sI (sI (sI (sI (sI (sI (sI (sI (sI (sI σ8 103 38 (nI b)) 103 42 (0 : Int32)) 103 41 (4000 : Int32)) 103 66 (0 : Int32)) 103 67 (nI N)) 103 68 (0 : Int32)) 103 69 (0 : Int32)) 103 70 (0 : Int32)) 103 74 (0 : Int32)) 103 71 (0 : Int32)).1 103 69 = 0 := rfl
      have w70 : (sI (sI (sI (sI (sI (sI (sI (sI (sI (sI σ8 103 38 (nI b)) 103 42 (0 : Int32)) 103 41 (4000 : Int32)) 103 66 (0 : Int32)) 103 67 (nI N)) 103 68 (0 : Int32)) 103 69 (0 : Int32)) 103 70 (0 : Int32)) 103 74 (0 : Int32)) 103 71 (0 : Int32)).1 103 70 = 0 := rfl
      have w71 : (sI (sI (sI (sI (sI (sI (sI (sI (sI (sI σ8 103 38 (nI b)) 103 42 (0 : Int32)) 103 41 (4000 : Int32)) 103 66 (0 : Int32)) 103 67 (nI N)) 103 68 (0 : Int32)) 103 69 (0 : Int32)) 103 70 (0 : Int32)) 103 74 (0 : Int32)) 103 71 (0 : Int32)).1 103 71 = 0 := rfl
      have w74 : (sI (sI (sI (sI (sI (sI (sI (sI (sI (sI σ8 103 38 (nI b)) 103 42 (0 : Int32)) 103 41 (4000 : Int32)) 103 66 (0 : Int32)) 103 67 (nI N)) 103 68 (0 : Int32)) 103 69 (0 : Int32)) 103 70 (0 : Int32)) 103 74 (0 : Int32)) 103 71 (0 : Int32)).1 103 74 = 0 := rfl
      generalize sI (sI (sI (sI (sI (sI (sI (sI (sI (sI σ8 103 38 (nI b)) 103 42 (0 : Int32)) 103 41 (4000 : Int32)) 103 66 (0 : Int32)) 103 67 (nI N)) 103 68 (0 : Int32)) 103 69 (0 : Int32)) 103 70 (0 : Int32)) 103 74 (0 : Int32)) 103 71 (0 : Int32) = σ9 at fz fzn w37 w38 w41 w42 w66 w67 w68 w69 w70 w71 w74 ⊢
      have zf : ∀ {c j : Nat}, c ≠ 103 → c ≠ 146 → c ≠ 148 → ¬ (150 ≤ c ∧ c ≤ 153) → sRf c j = false := fun {c j} h1 h2 h3 h4 => by
        cases hh : sRf c j
        · rfl
        · have := sRf_lo hh
          omega
      have hM9 : MX t b m σ9 := hM8.frB hok.1 fz (bkF0_lo fun c j a1 a2 => zf (by omega) (by omega) (by omega) (by omega))
      have k105 : ∀ k, σ9.1 105 k = σ.1 105 k := fun k => (fz 105 k rfl).1.trans (q8 (by decide)).1
      -- the bank's bytes
      have htx : ∃ t2, agr t t2 n 4000 ∧ ∀ k, k < 4000 → σ9.1 105 (4000 * b + k) = bI (t2 k) := by
        have hx : ∀ k, ∃ x : UInt8, k < 4000 → σ.1 105 (4000 * b + k) = bI x := fun k => by
          by_cases hk : k < 4000
          · obtain ⟨x, hx⟩ := hTB (4000 * b + k) (by omega)
            exact ⟨x, fun _ => hx⟩
          · exact ⟨0, fun y => absurd y hk⟩
        obtain ⟨t2, ht2⟩ := Classical.axiomOfChoice hx
        refine ⟨t2, ⟨hn4, fun k hk => ?_⟩, fun k hk => (k105 _).trans (ht2 k hk)⟩
        have h1 := ht2 k (by omega)
        rw [h105 k hk] at h1
        have h2 := congrArg u4 h1
        rw [u4_bI, u4_bI] at h2
        exact (UInt8.toNat_inj.mp h2).symm
      have hS9 : SM t n b N m σ9 := ⟨hok, hb, w37, w38, w41, w42, hM9, htx, fun k hk => (fz 147 k rfl).1.trans ((q8 (by decide)).1.trans (v6 k hk).2), w67⟩
      have hen9 : envM m (fun k => σ.2.1 146 k, mm, p) σ9 := ⟨fun k hk => ?_, fun k hk => ?_, ?_⟩
      · obtain ⟨pp, hpp⟩ := i32_pic (σ9.1 103 40)
        have hA9 : ∀ k, k < 8 → σ9.2.1 149 k = (fun k => σ.2.1 2 k) k := fun k hk => (fz 149 k rfl).2.1.trans ((q8 (by decide)).2.trans (hA k hk).symm)
        refine w_ru151 (d := d + 419) (σ0 := σ9) (p := pp) hN hof ha8 he hS9 hpp hen9 w68 w69 w70 w71 w74 hA9 (by omega) (fun k2 s2 σ10 hs2 hst2 ht2 f10 gen10 x68 x69 x71 hv10 hS10 => ?_) (agN m f) 0 σ9 (Nat.zero_add _) Fr.rf ⟨w66, Nat.zero_le _, trivial⟩
        have hss : s2 = s' := by
          rw [hs2, hs']
          exact aIt_end (by rw [← hs2]; exact hst2) (by
            have := hE.1
            rw [hs'] at this
            exact this)
        subst hss
        have hgv : gvF m f < 200 := by
          have := hof.gv
          unfold isT0 isT at this
          show (tyAt m (fnTy m f)).2.2 < 200
          omega
        refine w_ru234 (d := d + 419) (s := s2) (hok.fn hfU).2.1 hS10 gen10 x68 x69 x71 ht2 hgv hv10 fun σ11 e11 f11 g75 => ⟨rfl, hJ σ11 ?_ ?_ ?_⟩
        · -- the module that is kept
          have fA : Fr sRf σ8 σ11 := fz.tr ((f10.mono fun _ _ => sRi_rf).tr (f11.mono fun c j h => by
            have h : (Nat.beq c 103 && (Nat.beq j 75 || Nat.beq j 76 || Nat.beq j 77)) = true := h
            unfold sRf sRi
            simp only [Bool.or_eq_true, Bool.and_eq_true, Nat.beq_eq, Nat.ble_eq] at h ⊢
            omega))
          have lo : ∀ {c j : Nat}, c < 103 → σ11.1 c j = σ8.1 c j ∧ σ11.2.1 c j = σ8.2.1 c j ∧ σ11.2.2 c j = σ8.2.2 c j := fun h => fA _ _ (zf (by omega) (by omega) (by omega) (by omega))
          refine .inr ⟨t, n, m, b, ?_, ?_, hb, ?_, hok, hY.eq fun c j a1 a2 => ?_, hrv.eq fun j => ?_, ?_, fun k hk => ?_, ?_, ?_, ⟨eP (sE s2), eM (sE s2), ?_⟩, fun k x hx => ?_⟩
          · exact (lo (by decide)).1.trans ((f8 0 5 rfl).1.trans h1)
          · exact (fA 103 39 rfl).1.trans ((q8 (by decide)).1.trans h2)
          · exact (fA 103 37 rfl).1.trans ((q8 (by decide)).1.trans h37)
          · show σ11.1 (swM c) j = σ.1 (swM c) j ∧ σ11.2.1 (swM c) j = σ.2.1 (swM c) j
            rw [swM_hi a1 (by omega)]
            have h8 := f8 (c - 21) j (z8 (by omega) (.inl (by omega)))
            exact ⟨(lo (by omega)).1.trans h8.1, (lo (by omega)).2.1.trans h8.2.1⟩
          · show σ11.1 23 j = σ.1 23 j
            exact (lo (by decide)).1.trans (f8 23 j (z8 (by decide) (.inl (by decide)))).1
          · exact hM8.frB hok.1 fA (bkF0_lo fun c j a1 a2 => zf (by omega) (by omega) (by omega) (by omega))
          · exact (fA 105 _ rfl).1.trans ((q8 (by decide)).1.trans (h105 k hk))
          · exact (lo (by decide)).2.2.trans ((f8 56 0 rfl).2.2.trans h560)
          · exact (lo (by decide)).2.2.trans ((f8 56 1 rfl).2.2.trans h561)
          · refine ⟨hE.2.1.2, (lo (by decide)).1.trans gen8.2.2, (f11 103 62 rfl).1.trans gen10.2.2, fun i hi => ⟨?_, ?_⟩, ?_, fun k hk => ⟨?_, ?_⟩, fun k hk => ?_⟩
            · rw [(lo (c := 58) (j := i / 8) (by decide)).2.1]
              exact gen8.2.1 i hi
            · exact (f11 148 i rfl).1.trans (gen10.2.1 i hi)
            · exact (lo (by decide)).1.trans ((f8 56 6 rfl).1.trans v5)
            · exact (lo (by decide)).1.trans ((f8 59 k rfl).1.trans (v6 k hk).1)
            · exact (fA 147 k rfl).1.trans ((q8 (by decide)).1.trans (v6 k hk).2)
            · rw [(lo (c := 57) (j := k) (by decide)).2.1, (f11 146 k rfl).2.1, gen10.1 k hk]
              exact gen8.1 k hk
          · rw [(f11 146 k rfl).2.1, gen10.1 k (get_lt hx)]
            exact hE.2.1.1 k x hx
        · -- what came of it
          have fB : Fr sRf σ8 σ11 := fz.tr ((f10.mono fun _ _ => sRi_rf).tr (f11.mono fun c j h => by
            have h : (Nat.beq c 103 && (Nat.beq j 75 || Nat.beq j 76 || Nat.beq j 77)) = true := h
            unfold sRf sRi
            simp only [Bool.or_eq_true, Bool.and_eq_true, Nat.beq_eq, Nat.ble_eq] at h ⊢
            omega))
          refine ⟨?_, ?_, ?_⟩
          · rw [(fB 0 15 rfl).2.1, r15, g75]
          · rw [(fB 0 16 rfl).1, r16, e11]
            exact sI_ss.symm
          · rw [(fB 0 17 rfl).1, r17, e11]
            rfl
        · refine (f8.mono fun c j h => ?_).tr ((fz.mono fun c j h => ?_).tr ((f10.mono fun c j h => ?_).tr (f11.mono fun c j h => ?_)))
          · have h : ((Nat.beq c 0 && (Nat.beq j 15 || Nat.beq j 16 || Nat.beq j 17)) || sRg c j) = true := h
            unfold sRa
            rw [h]
            rfl
          · unfold sRa
            rw [h, Bool.or_true]
          · unfold sRa
            rw [sRi_rf h, Bool.or_true]
          · have h : (Nat.beq c 103 && (Nat.beq j 75 || Nat.beq j 76 || Nat.beq j 77)) = true := h
            unfold sRa sRf sRi
            simp only [Bool.or_eq_true, Bool.and_eq_true, Nat.beq_eq, Nat.ble_eq] at h ⊢
            omega
      · exact (fzn 146 k rfl).2.1.trans (q8 (by decide)).2
      · exact (fzn 148 k rfl).1.trans ((q8 (by decide)).1.trans (v4 k hk).2)
      · exact (fzn 103 62 rfl).1.trans ((q8 (by decide)).1.trans v3)
  · have hr : ∀ f, ¬ runF m a0 f := fun f h => hr ⟨f, h⟩
    exact c_run (d := d + 419) h03 n1 hok hY (fun _ => m_run (d := d + 419) n2 hok hb h37 hM (fun _ => ⟨rfl, hJ0⟩) (fun f h => absurd h (hr f)) fun f N h => absurd h (hr f)) (fun f h => absurd h (hr f)) fun f N h => absurd h (hr f)
end OPRUN2
