/-! A RUN, the reference -/
def sRf (c j : Nat) : Bool := sRi c j || (Nat.beq c 103 && (Nat.beq j 38 || Nat.beq j 41 || Nat.beq j 42 || Nat.beq j 67 || Nat.beq j 75 || Nat.beq j 76 || Nat.beq j 77))
theorem sRi_rf {c j : Nat} (h : sRi c j = true) : sRf c j = true := by
  unfold sRf
  rw [h]
  rfl
section RUNM
variable {t : Nat → UInt8} {n b N d f f0 i j k p q tk : Nat} {m : Md} {σ σ' σ0 : fkS} {L S A R : List Int64} {e : Env} {fs : List Fm} {v w : Int64} {P : Int32 → fkS → Prop} {QQ : Option Value → fkS → Prop}
theorem goes_all (hN : N ≤ 20000) : ∀ (r : Nat) (s : St), RI t n m N f0 s → mu t m N s ≤ r → Gc t n b N f0 m s
  | 0, s, hR, hm => by
    obtain ⟨f, i, L, S, fs, e, tk, rfl, b1, b2, b3, b4, -⟩ := RI_st hR
    have h1 := b4.2.2.1
    have h2 : mu t m N ((f, i, L, S) :: fs, [], e, tk, 0, false) = 2 * (N - tk) + ((jB (jAt t m f i)).length + potJ t m fs) := rfl
    omega
  | r + 1, s, hR, hm => goes_ok hN (fun s2 h2 m2 => goes_all hN r s2 h2 m2) hR hm
theorem i32_pic (x : Int32) : ∃ p : Nat, x = nI p := ⟨u4 x, (u4_self x).symm⟩
/-- from what a run ends with to its answer -/
theorem w_ru234 {s : St} (hty : fnTy m f < (mdT m).length) (hS : SM t n b N m σ) (hP : envM m (sE s) σ) (h68 : σ.1 103 68 = nI (sK s)) (h69 : σ.1 103 69 = nI (sT s)) (h71 : σ.1 103 71 = b2i (sS s)) (ht8 : sT s ≤ 8) (hgv : gvF m f < 200) (hv : sT s = 0 → sS s = false → gvF m f ≠ 0 → ∃ v, sR2 s = [v] ∧ oM σ [v]) (hQ : ∀ σ', σ'.1 = (sI (sI σ 103 76 (nI (sT s))) 103 77 (nI (sK s))).1 → Fr (fun c j => Nat.beq c 103 && (Nat.beq j 75 || Nat.beq j 76 || Nat.beq j 77)) σ σ' → σ'.2.1 103 75 = ruG m f s → P (rnA s) σ') :
    (¬ σ.1 103 69 = 0 → Wq 296 (d + 1) 234 [some (.ref 103), none, none, none, some (.int (nI (60 * b + fnTy m f))), none] [.int (0 : Int32)] σ (Qi P)) ∧ (σ.1 103 69 = 0 → (¬ σ.1 103 71 = 0 → Wq 296 (d + 1) 234 [some (.ref 103), none, none, none, some (.int (nI (60 * b + fnTy m f))), none] [.int (0 : Int32)] σ (Qi P)) ∧ (σ.1 103 71 = 0 → Wq 296 (d + 1) 234 [some (.ref 103), none, none, none, some (.int (nI (60 * b + fnTy m f))), none] [.int (1 : Int32)] σ (Qi P))) := by
  have hb2 := hS.2.1
  have hl1 : (mdT m).length ≤ 60 := hS.1.1.1
  have h109 : σ.1 109 (60 * b + fnTy m f) = nI (gvF m f) := (hS.ty hty).2.2
  have fin : ∀ (v5 : Int32) (g : Int64), g = ruG m f s → (v5 = 0 → sS s = true ∨ sT s ≠ 0) → (¬ v5 = 0 → sS s = false ∧ sT s = 0) → Wq 296 (d + 1) 267 [some (.ref 103), none, none, none, none, some (.int v5)] [.long g, .ref 103] σ (Qi P) := fun v5 g hg hz hn => by
    have hq : ∀ {r : Int32}, r = rnA s → P r (sI (sI (sL σ 103 75 g) 103 76 (σ.1 103 69)) 103 77 (σ.1 103 68)) := fun hr => by
      rw [hr, h68, h69]
      exact hQ _ rfl (((Fr.rf.sL rfl).sI rfl).sI rfl) (by rw [← hg]; exact sL_ss)
    refine S_M_run_267 ⟨fun z => ⟨fun y => hq ?_, fun y => hq ?_⟩, fun z => hq ?_⟩
    · unfold rnA
      rw [h71] at y
      have hs : sS s = false := b2i_0.mp y
      rcases hz z with u | u
      · rw [hs] at u
        cases u
      · rw [if_neg (by rw [hs]; decide), if_neg u]
    · unfold rnA
      rw [h71] at y
      have hs : sS s = true := by
        cases hh : sS s
        · rw [hh] at y
          exact absurd rfl y
        · rfl
      rw [if_pos hs]
    · unfold rnA
      obtain ⟨u1, u2⟩ := hn z
      rw [if_neg (by rw [u1]; decide), if_pos u2]
  have zero : (sS s = true ∨ sT s ≠ 0) → Wq 296 (d + 1) 234 [some (.ref 103), none, none, none, some (.int (nI (60 * b + fnTy m f))), none] [.int (0 : Int32)] σ (Qi P) := fun hz => by
    refine S_M_run_234 ⟨fun _ => fin 0 0 ?_ (fun _ => hz) fun y => absurd rfl y, fun y => absurd rfl y⟩
    unfold ruG
    rw [if_pos (by rcases hz with u | u; exact .inl u; exact .inr (.inl u))]
  refine ⟨fun z => zero (.inr fun y => z (by rw [h69, y]; rfl)), fun z => ⟨fun y => zero (.inl ?_), fun y => ?_⟩⟩
  · rw [h71] at y
    cases hh : sS s
    · rw [hh] at y
      exact absurd rfl y
    · rfl
  · rw [h69] at z
    rw [h71] at y
    have hT : sT s = 0 := (nI_eq (b := 0) (by omega) (by decide)).mp z
    have hs : sS s = false := b2i_0.mp y
    refine S_M_run_234 ⟨fun w => absurd w (by decide), fun _ => ?_⟩
    rw [nI_clamp (n := 60 * b + fnTy m f) (by omega), h109]
    refine ⟨vp_in_nI (by omega) (by decide), fun w => ?_, fun w => ?_⟩
    · have hg : gvF m f = 0 := (nI_eq (b := 0) (by omega) (by decide)).mp w
      refine fin 1 0 ?_ (fun u => absurd u (by decide)) fun _ => ⟨hs, hT⟩
      unfold ruG
      rw [if_pos (.inr (.inr hg))]
    · have hg : ¬ gvF m f = 0 := fun u => w (by rw [u]; rfl)
      obtain ⟨v, hv1, hv2⟩ := hv hT hs hg
      obtain ⟨u1, u2, u3⟩ := hv2.sp
      have u1 : σ.1 103 66 - (1 : Int32) = nI 0 := u1
      have u3 : σ.2.1 150 0 = v := u3
      rw [u1, nI_clamp (n := 0) (by omega), u3]
      refine ⟨vp_in_nI (by omega) (by decide), fin 1 v ?_ (fun u => absurd u (by decide)) fun _ => ⟨hs, hT⟩⟩
      unfold ruG
      rw [if_neg (by rintro (u | u | u); rw [hs] at u; cases u; exact u hT; exact hg u), hv1]
      rfl
/-- from the ARGUMENTS on -/
theorem w_ru151 (hN : N ≤ 20000) (hf : okFn t n m f) (ha : agN m f ≤ 8) (he : evOk m e) {a : Nat → Int64} {σ0 : fkS} (hS : SM t n b N m σ0) (h40 : σ0.1 103 40 = nI p) (hen : envM m e σ0) (h68 : σ0.1 103 68 = 0) (h69 : σ0.1 103 69 = 0) (h70 : σ0.1 103 70 = 0) (h71 : σ0.1 103 71 = 0) (h74 : σ0.1 103 74 = 0) (hA : ∀ k, k < 8 → σ0.2.1 149 k = a k) (hd : 400 ≤ d)
    (hQ : ∀ k s' σ', s' = aIt t m N k (aEn m f (rn0 t m f a e)) → stop s' → sT s' ≤ 8 → Fr sRi σ0 σ' → envM m (sE s') σ' → σ'.1 103 68 = nI (sK s') → σ'.1 103 69 = nI (sT s') → σ'.1 103 71 = b2i (sS s') → (sT s' = 0 → sS s' = false → gvF m f ≠ 0 → ∃ v, sR2 s' = [v] ∧ oM σ' [v]) → SM t n b N m σ' → (¬ σ'.1 103 69 = 0 → Wq 296 (d + 1) 234 [some (.ref 103), none, none, none, some (.int (nI (60 * b + fnTy m f))), none] [.int (0 : Int32)] σ' QQ) ∧ (σ'.1 103 69 = 0 → (¬ σ'.1 103 71 = 0 → Wq 296 (d + 1) 234 [some (.ref 103), none, none, none, some (.int (nI (60 * b + fnTy m f))), none] [.int (0 : Int32)] σ' QQ) ∧ (σ'.1 103 71 = 0 → Wq 296 (d + 1) 234 [some (.ref 103), none, none, none, some (.int (nI (60 * b + fnTy m f))), none] [.int (1 : Int32)] σ' QQ))) :
    ∀ (r k : Nat) (σ : fkS), k + r = agN m f → Fr sOm σ0 σ → oM σ (agS t (tyAt m (fnTy m f)) a k) → Wq 296 (d + 1) 151 [some (.ref 103), none, none, some (.int (nI f)), some (.int (nI (60 * b + fnTy m f))), some (.int (nI k))] [] σ QQ
  | r, k, σ, hk, f0, ho => by
    have hb2 := hS.2.1
    have hl1 : (mdT m).length ≤ 60 := hS.1.1.1
    have hty := (hS.1.fn hf.2).2.1
    have hS1 := hS.fo f0
    obtain ⟨y1, y2, y3⟩ := hS1.ty hty
    have y1 : σ.1 107 (60 * b + fnTy m f) = nI (agN m f) := y1
    refine S_M_run_151 ?_
    rw [nI_clamp (n := 60 * b + fnTy m f) (by omega), y1]
    refine ⟨vp_in_nI (by omega) (by decide), ?_⟩
    match r with
    | 0 =>
      have hk : k = agN m f := by omega
      subst hk
      refine pk_le (agN m f) (agN m f) (fun _ => ?_) fun z => absurd z (by omega)
      have hR0 : (agS t (tyAt m (fnTy m f)) a (agN m f)).length = agN m f := agS_len _
      have hPQ : PQ t m (rn0 t m f a e) p σ := ⟨hen.fo f0, (f0 _ _ rfl).1.trans h68, (f0 _ _ rfl).1.trans h69, (f0 _ _ rfl).1.trans h71, fun _ _ => ⟨ho, trivial, trivial, (f0 _ _ rfl).1.trans h70, (f0 _ _ rfl).1.trans h74, (f0 _ _ rfl).1.trans h40⟩⟩
      have hRI : RI t n m N f (aEn m f (rn0 t m f a e)) := rn_RI hf ha he
      refine (m_enters (f0 := f) (r0 := mu t m N (aEn m f (rn0 t m f a e))) (fun s h1 h2 => goes_all hN _ s h1 h2) hS1 hf hPQ (by decide) (by rw [ol, List.nil_append, hR0]; exact Nat.le_refl _) ⟨fun _ => hR0, fun x ys y => by cases y⟩ (fun x hx => by cases hx) (.inl hRI) (fun _ => Nat.le_refl _) (by show 6 * (64 - 0) + 14 ≤ d; omega)).mono fun x σ1 hx => ?_
      obtain ⟨rfl, f1, hcase⟩ := Qv_s hx
      have f01 : Fr sRi σ0 σ1 := (f0.mono fun _ _ => sOm_ri).tr f1
      rcases hcase with ⟨k, p', hRE, ht8, hxx, hq⟩ | ⟨k, i', L', S', e', tk', hst, hv, hRR', hq⟩
      · refine hQ k _ σ1 rfl hRE.1 ht8 f01 hq.1 hq.2.1 hq.2.2.1 hq.2.2.2.1 (fun z1 z2 _ => ?_) (hS.fr f01)
        rcases hxx with u | u
        · exact absurd z1 u
        · exact absurd (z2.symm.trans u) (by decide)
      · have hq : PQ t m (aIt t m N k (aEn m f (rn0 t m f a e))) p σ1 := hq
        have hst2 : aIt t m N k (aEn m f (rn0 t m f a e)) = ([], (if gvF m f = 0 then [] else S'.take 1) ++ [], e', tk', 0, false) := hst
        rw [hst2] at hq
        refine hQ k _ σ1 hst2.symm (.inl rfl) (Nat.zero_le _) f01 hq.1 hq.2.1 hq.2.2.1 hq.2.2.2.1 (fun _ _ hg => ?_) (hS.fr f01)
        obtain ⟨v, rr, rfl⟩ := hv hg
        have ho9 := (hq.2.2.2.2 rfl rfl).1
        have ho9 : oM σ1 ([] ++ ((if gvF m f = 0 then [] else (v :: rr).take 1) ++ [])) := ho9
        rw [if_neg hg] at ho9
        refine ⟨v, ?_, ho9⟩
        show (if gvF m f = 0 then [] else (v :: rr).take 1) ++ [] = [v]
        rw [if_neg hg]
        rfl
    | r + 1 =>
      have hj : k < (tyAt m (fnTy m f)).2.1 := by
        have : agN m f = (tyAt m (fnTy m f)).2.1 := rfl
        omega
      refine pk_le (agN m f) k (fun z => absurd z (by omega)) fun _ => ?_
      have e60 : (60 : Int32) * nI (60 * b + fnTy m f) + nI k = nI (60 * (60 * b + fnTy m f) + k) := by rw [show (60 : Int32) = nI 60 from rfl, nI_mul, nI_add]
      have h149 : σ.2.1 149 k = a k := (f0 _ _ rfl).2.1.trans (hA k (by omega))
      have h8 := (t ((tyAt m (fnTy m f)).1 + k)).toNat_lt
      rw [e60, nI_clamp (n := 60 * (60 * b + fnTy m f) + k) (by omega), y2 k hj, nI_clamp (n := k) (by omega), h149, nI_1]
      refine ⟨vp_in_nI (by omega) (by decide), ?_⟩
      have hlk : (agS t (tyAt m (fnTy m f)) a k).length < 30000 := by rw [agS_len]; omega
      have next : ∀ {v : Int64}, v = agV t (tyAt m (fnTy m f)) a k → Cv d 297 [.ref 103, .long v] σ (fun σ2 => Wq 296 (d + 1) 151 [some (.ref 103), none, none, some (.int (nI f)), some (.int (nI (60 * b + fnTy m f))), some (.int (nI (k + 1)))] [] σ2 QQ) := fun {v} hv => m_pushes ho hlk fun σ2 f2 o2 => by
        rw [hv] at o2
        exact w_ru151 hN hf ha he hS h40 hen h68 h69 h70 h71 h74 hA hd hQ r (k + 1) σ2 (by omega) (f0.tr f2) o2
      refine And.comm.mp (pk_eq (t ((tyAt m (fnTy m f)).1 + k)).toNat 127 (fun z => ⟨vp_in_nI (by omega) (by decide), next ?_⟩) (fun z => ⟨vp_in_nI (by omega) (by decide), next ?_⟩) (ha := by omega) (hb := by decide))
      · unfold agV
        rw [if_pos z]
      · unfold agV
        rw [if_neg z]
end RUNM
