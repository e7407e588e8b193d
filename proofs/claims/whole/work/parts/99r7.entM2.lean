/-! RUNNING, the reference: CALLS in one another -/
def sLm (c j : Nat) : Bool := Nat.beq c 150 || (Nat.beq c 103 && (Nat.beq j 40 || Nat.beq j 66 || Nat.beq j 70 || Nat.beq j 74))
theorem sLm_ri {c j : Nat} (h : sLm c j = true) : sRi c j = true := by
  unfold sLm at h
  unfold sRi
  simp only [Bool.or_eq_true, Bool.and_eq_true, Nat.beq_eq, Nat.ble_eq] at h ⊢
  omega
/-- what one INSTRUCTION comes to: on, an end of all, the CALL's end -/
def gR (t : Nat → UInt8) (n N f0 : Nat) (m : Md) (s : St) (f : Nat) (fs : List Fm) (σ0 : fkS) (r : Int32) (σ' : fkS) : Prop := Fr sRi σ0 σ' ∧
  ((r = 1 ∧ ∃ k i L S e tk, 1 ≤ k ∧ aIt t m N k s = ((f, i, L, S) :: fs, [], e, tk, 0, false) ∧ RI t n m N f0 (aIt t m N k s) ∧ PQ t m (aIt t m N k s) (posOf (mdC m).2 i) σ') ∨
   (r = 0 ∧ ∃ k p, RE m N f0 (aIt t m N k s) ∧ sT (aIt t m N k s) ≤ 8 ∧ (sT (aIt t m N k s) ≠ 0 ∨ sS (aIt t m N k s) = true) ∧ PQ t m (aIt t m N k s) p σ') ∨
   (r = 0 ∧ ∃ k i L S e tk p, aIt t m N k s = aLv m ((f, i, L, S) :: fs, [], e, tk, 0, false) ∧ PQ t m ((f, i, L, S) :: fs, [], e, tk, 0, false) p σ' ∧ (gvF m f ≠ 0 → ∃ v r, S = v :: r) ∧ (RI t n m N f0 (aIt t m N k s) ∨ RE m N f0 (aIt t m N k s))))
def Gc (t : Nat → UInt8) (n b N f0 : Nat) (m : Md) (s : St) : Prop := ∀ f i L S fs e tk, s = ((f, i, L, S) :: fs, [], e, tk, 0, false) → ∀ d σ, 6 * (64 - fs.length) + 12 ≤ d → SM t n b N m σ → PQ t m s (posOf (mdC m).2 i) σ → Ci d 300 [.ref 103, .int (nI (110 * fs.length)), .int (nI (nlb t m fs))] σ (gR t n N f0 m s f fs σ)
/-- what a CALL comes to: an end of all, or back -/
def eR (t : Nat → UInt8) (n N f0 g : Nat) (m : Md) (s : St) (fs : List Fm) (p : Nat) (σ0 σ' : fkS) : Prop := Fr sRi σ0 σ' ∧
  ((∃ k p', RE m N f0 (aIt t m N k s) ∧ sT (aIt t m N k s) ≤ 8 ∧ (sT (aIt t m N k s) ≠ 0 ∨ sS (aIt t m N k s) = true) ∧ PQ t m (aIt t m N k s) p' σ') ∨
   (∃ k i L S e tk, aIt t m N k s = aLv m ((g, i, L, S) :: fs, [], e, tk, 0, false) ∧ (gvF m g ≠ 0 → ∃ v r, S = v :: r) ∧ (RI t n m N f0 (aIt t m N k s) ∨ RE m N f0 (aIt t m N k s)) ∧ PQ t m (aIt t m N k s) p σ'))
section ENTM2
variable {t : Nat → UInt8} {n b N d f g f0 i j k p q tk lab a c nl sp : Nat} {m : Md} {σ σ' σ0 : fkS} {L L2 S S2 A R : List Int64} {e e2 : Env} {fs : List Fm} {v w : Int64} {I : In} {Q : fkS → Prop} {J : JS} {bk : Bk} {P : Int32 → fkS → Prop} {QQ : Option Value → fkS → Prop}
theorem PQ.dead {s : St} (h : PQ t m s p σ) (hx : sT s ≠ 0 ∨ sS s = true) (f1 : Fr sLm σ σ') : PQ t m s q σ' := by
  obtain ⟨h1, h2, h3, h4, h5⟩ := h
  refine ⟨h1.fr f1 (fun _ => rfl) (fun _ => rfl) rfl, (f1 _ _ rfl).1.trans h2, (f1 _ _ rfl).1.trans h3, (f1 _ _ rfl).1.trans h4, fun z1 z2 => ?_⟩
  rcases hx with y | y
  · exact absurd z1 y
  · rw [z2] at y
    cases y
theorem PQ.lv (h : PQ t m ((g, i, L, S) :: fs, [], e, tk, 0, false) q σ) (f1 : Fr sLm σ σ') (ho : oM σ' ((if gvF m g = 0 then [] else S.take 1) ++ ol fs)) (h70 : σ'.1 103 70 = nI fs.length) (h74 : σ'.1 103 74 = nI (nlb t m fs)) (h40 : σ'.1 103 40 = nI p) : PQ t m (aLv m ((g, i, L, S) :: fs, [], e, tk, 0, false)) p σ' := by
  obtain ⟨h1, h2, h3, h4, h5⟩ := h
  obtain ⟨-, o2, o3, -⟩ := h5 rfl rfl
  have g1 : envM m e σ' := h1.fr f1 (fun _ => rfl) (fun _ => rfl) rfl
  have l2 : locM σ' fs := o2.2.fr f1 fun _ => rfl
  have l3 : labM t m σ' fs := o3.2.fr f1 (fun _ => rfl) fun _ => rfl
  cases fs with
  | nil =>
    refine ⟨g1, (f1 _ _ rfl).1.trans h2, (f1 _ _ rfl).1.trans h3, (f1 _ _ rfl).1.trans h4, fun _ _ => ⟨?_, trivial, trivial, h70, h74, h40⟩⟩
    exact ho
  | cons y ys =>
    obtain ⟨f2, i2, L2, S2⟩ := y
    refine ⟨g1, (f1 _ _ rfl).1.trans h2, (f1 _ _ rfl).1.trans h3, (f1 _ _ rfl).1.trans h4, fun _ _ => ⟨?_, l2, l3, h70, h74, h40⟩⟩
    show oM σ' ((((if gvF m g = 0 then [] else S.take 1) ++ S2) ++ ol ys) ++ [])
    rw [List.append_nil, List.append_assoc]
    exact ho
/-- the CALL's loop -/
theorem w_en177 (hg : okFn t n m g) (hfs : fs.length ≤ 63) (hd : 6 * (64 - fs.length) + 12 ≤ d) {σ0 : fkS} {s0 : St} {r0 : Nat} (hG : ∀ s, RI t n m N f0 s → mu t m N s ≤ r0 → Gc t n b N f0 m s) (hQ : ∀ σ', eR t n N f0 g m s0 fs p σ0 σ' → QQ none σ') :
    ∀ (r k0 : Nat) (s : St) (i : Nat) (L S : List Int64) (e : Env) (tk : Nat) (σ : fkS), s = aIt t m N k0 s0 → s = ((g, i, L, S) :: fs, [], e, tk, 0, false) → RI t n m N f0 s → mu t m N s ≤ r → r ≤ r0 → SM t n b N m σ → Fr sRi σ0 σ → PQ t m s (posOf (mdC m).2 i) σ → Wq 298 (d + 1) 177 [some (.ref 103), none, some (.int (nI (110 * fs.length))), some (.int (nI (60 * b + fnTy m g))), none, some (.int (nI (ol fs).length)), some (.int (nI (nlb t m fs))), some (.int (nI p)), some (.int (1 : Int32))] [] σ QQ
  | r, k0, s, i, L, S, e, tk, σ, hs0, hs, hR, hmu, hr, hS, fr, hP => by
    have hb2 := hS.2.1
    have hl1 : (mdT m).length ≤ 60 := hS.1.1.1
    have hty := (hS.1.fn hg.2).2.1
    refine S_M_enters_177 ⟨fun z => absurd z (by decide), fun _ => ?_⟩
    refine (hG s hR (by omega) g i L S fs e tk hs d σ hd hS hP).mono fun x σ1 hx => ?_
    obtain ⟨rr, rfl, f1, hcase⟩ := Qi_s hx
    have f01 := fr.tr f1
    have hS1 := hS.fr f1
    -- an end
    have cut246 : ∀ (v5 : Int32) (σ2 : fkS), Fr sLm σ1 σ2 → (∀ σ3, σ3 = sI (sI (sI (sI σ2 103 66 v5) 103 74 (nI (nlb t m fs))) 103 40 (nI p)) 103 70 (σ2.1 103 70 - 1) → QQ none σ3) → Wq 298 (d + 1) 246 [some (.ref 103), none, none, none, none, some (.int v5), some (.int (nI (nlb t m fs))), some (.int (nI p)), none] [] σ2 QQ := fun v5 σ2 f2 hq => S_M_enters_246 (hq _ rfl)
    rcases hcase with ⟨rfl, k, i2, L2, S2, e2, tk2, hk1, hst, hRI, hPQ⟩ | ⟨rfl, k, p2, hRE, ht8, hx, hPQ⟩ | ⟨rfl, k, i2, L2, S2, e2, tk2, p2, hst, hPQ, hv, hRR⟩
    · have hmk := mu_it hR k hRI
      match r, hmu, hr with
      | 0, hmu, hr => omega
      | r + 1, hmu, hr =>
        refine w_en177 hg hfs hd hG hQ r (k0 + k) (aIt t m N k s) i2 L2 S2 e2 tk2 σ1 ?_ hst hRI (by omega) (by omega) hS1 f01 hPQ
        rw [hs0, aIt_add]
    · have e69 := hPQ.2.2.1
      have e71 := hPQ.2.2.2.1
      have fin : Wq 298 (d + 1) 246 [some (.ref 103), none, none, none, none, some (.int (nI (ol fs).length)), some (.int (nI (nlb t m fs))), some (.int (nI p)), none] [] σ1 QQ := cut246 _ σ1 Fr.rf fun σ3 h3 => by
        have f3 : Fr sLm σ1 σ3 := by
          rw [h3]
          exact (((Fr.rf.sI rfl).sI rfl).sI rfl).sI rfl
        refine hQ σ3 ⟨f01.tr (f3.mono fun _ _ => sLm_ri), .inl ⟨k0 + k, p2, ?_⟩⟩
        rw [aIt_add, ← hs0]
        exact ⟨hRE, ht8, hx, hPQ.dead hx f3⟩
      refine S_M_enters_177 ⟨fun _ => ⟨fun _ => fin, fun z => ⟨fun _ => fin, fun y => ?_⟩⟩, fun z => absurd rfl z⟩
      rcases hx with w | w
      · rw [e69] at z
        exact absurd z (nI_ne0 (by omega) (by omega))
      · rw [e71, w] at y
        exact absurd y (by decide)
    · have e69 := hPQ.2.2.1
      have e71 := hPQ.2.2.2.1
      have ho := hPQ.ox
      obtain ⟨-, -, -, -, hlast⟩ := id hPQ
      obtain ⟨-, -, -, o4, o5, o6⟩ := hlast rfl rfl
      have o4q : σ1.1 103 70 = nI (fs.length + 1) := o4
      have h109 : σ1.1 109 (60 * b + fnTy m g) = nI (gvF m g) := (hS1.ty hty).2.2
      have hgv : gvF m g < 200 := by
        have := hg.gv
        unfold isT0 isT at this
        show (tyAt m (fnTy m g)).2.2 < 200
        omega
      have back : ∀ σ3, Fr sLm σ1 σ3 → oM σ3 ((if gvF m g = 0 then [] else S2.take 1) ++ ol fs) → σ3.1 103 70 = nI fs.length → σ3.1 103 74 = nI (nlb t m fs) → σ3.1 103 40 = nI p → QQ none σ3 := fun σ3 f3 h1 h2 h3 h4 => by
        refine hQ σ3 ⟨f01.tr (f3.mono fun _ _ => sLm_ri), .inr ⟨k0 + k, i2, L2, S2, e2, tk2, ?_⟩⟩
        rw [aIt_add, ← hs0]
        refine ⟨hst, hv, hRR, ?_⟩
        rw [hst]
        exact hPQ.lv f3 h1 h2 h3 h4
      refine S_M_enters_177 ⟨fun _ => ⟨fun z => absurd e69 z, fun _ => ⟨fun z => absurd e71 z, fun _ => ?_⟩⟩, fun z => absurd rfl z⟩
      rw [nI_clamp (n := 60 * b + fnTy m g) (by omega), h109]
      refine ⟨vp_in_nI (by omega) (by decide), fun z => ?_, fun z => ?_⟩
      · have hz : gvF m g = 0 := (nI_eq (b := 0) (by omega) (by decide)).mp z
        refine cut246 _ σ1 Fr.rf fun σ3 h3 => ?_
        subst h3
        rw [o4q, nI_pred]
        rw [if_pos hz] at back
        exact back _ ((((Fr.rf.sI rfl).sI rfl).sI rfl).sI rfl) (ho.cut rfl fun _ _ => rfl) sI_ss rfl rfl
      · have hz : ¬ gvF m g = 0 := fun y => z (by rw [y]; rfl)
        obtain ⟨v, r, rfl⟩ := hv hz
        have ho2 : oM σ1 (v :: (r ++ ol fs)) := ho
        obtain ⟨u1, u2, u3⟩ := ho2.sp
        have hlo : (ol fs).length ≤ (r ++ ol fs).length := by rw [List.length_append]; omega
        rw [u1, nI_clamp (n := (r ++ ol fs).length) (by omega), nI_clamp (n := (ol fs).length) (by omega), u3, o4q, nI_pred, nI_1]
        refine ⟨vp_in_nI (by omega) (by decide), vp_in_nI (by omega) (by decide), ?_⟩
        rw [if_neg hz] at back
        refine back _ (((((Fr.rf.sL rfl).sI rfl).sI rfl).sI rfl).sI rfl) ⟨rfl, ?_, ?_, ?_⟩ sI_ss rfl rfl
        · show (ol fs).length + 1 ≤ 30000
          omega
        · show (sL σ1 150 (ol fs).length v).2.1 150 (ol fs).length = v
          exact sL_ss
        · have h9 : stm σ1 (ol fs) := ho2.2.2.2.tl
          exact h9.eq fun k hk => sL_so (by omega)
end ENTM2
