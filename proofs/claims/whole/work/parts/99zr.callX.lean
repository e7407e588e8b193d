/-! THE CLASS runs: CALLS, the start -/
section XR0
variable {t : Nat → UInt8} {n d : Nat} {D : List FD} {σ0 σ : fkS} {C : List cdE}
/-- ARGUMENTS: where they stand -/
theorem ag_slot : ∀ (L : List AD) (v : List Int32) (k : Nat) (pe : List pE1) (ev : List (List Nat × Int32)) (pre : List Int32), pre.length = k → v.length = L.length → (∀ x i, lk (esl t pe) x = some i → pre[i]? = some (rL ev x)) → ∀ x i, lk (esl t (agP L k pe)) x = some i → (pre ++ v)[i]? = some (rL (rAr t L v ev) x)
  | [], [], k, pe, ev, pre, _, _, h => fun x i hi => by rw [List.append_nil]; exact h x i hi
  | [], y :: v, k, pe, ev, pre, _, hl, _ => by cases hl
  | a :: L, [], k, pe, ev, pre, _, hl, _ => by cases hl
  | a :: L, y :: v, k, pe, ev, pre, hk, hl, h => fun x i hi => by
    have := ag_slot L v (k + 1) (((a.1, a.2.1), k, a.2.2) :: pe) ((nmT t a.1 a.2.1, y) :: ev) (pre ++ [y]) (by rw [List.length_append, hk]; rfl) (by simpa using hl) (fun z j hj => by
      rw [esl_c, lk] at hj
      rw [rL]
      by_cases c : nmT t a.1 a.2.1 = z
      · rw [if_pos c] at hj ⊢
        cases hj
        rw [← hk]
        exact mid_a
      · rw [if_neg c] at hj ⊢
        have h2 := h z j hj
        rw [List.getElem?_append_left (List.getElem?_eq_some_iff.mp h2).1]
        exact h2) x i hi
    rw [List.append_assoc] at this
    exact this
theorem es_nm : ∀ (pe : List pE1) (x : List Nat), lk (ety t pe) x ≠ none → lk (esl t pe) x ≠ none
  | [], _, h => h
  | q :: pe, x, h => by
    have h2 : lk ((nmT t q.1.1 q.1.2, q.2.2) :: ety t pe) x ≠ none := h
    show lk ((nmT t q.1.1 q.1.2, q.2.1) :: esl t pe) x ≠ none
    rw [lk] at h2 ⊢
    by_cases c : nmT t q.1.1 q.1.2 = x
    · rw [if_pos c]; simp
    · rw [if_neg c] at h2 ⊢
      exact es_nm pe x h2
theorem SL_at {A v : List Int32} {L : List AD} (hl : v.length = L.length) : SL (v.reverse ++ A) A.length (ety t (agP L 0 [])) (rAr t L v []) (esl t (agP L 0 [])) := by
  refine ⟨fun x i hi => ?_, fun x hx => es_nm _ x hx⟩
  have := ag_slot (t := t) L v 0 [] [] [] rfl hl (fun x i h => by cases h) x i hi
  rw [List.nil_append] at this
  rw [List.reverse_append, List.reverse_reverse, List.getElem?_append_right (by rw [List.length_reverse]; omega), List.length_reverse, Nat.add_sub_cancel_left]
  exact this
/-- where a body's CODE stands -/
theorem cGd_at : ∀ (R : List FD) (p i : Nat) (q : FD), R[i]? = some q → CA (cGd t D R p) (stD R i) (cg t (rsV t) (rsF t D) q.2.2.2.2 (p + stD R i) (agT q.2.1 []).length (esl t (agP q.2.1 0 [])) ++ [(17, 0, nI q.2.2.2.1, 0)])
  | [], p, i, q, h => by cases h
  | x :: R, p, 0, q, h => by
    have : x = q := Option.some.inj h
    subst this
    intro j e he
    have he' : (cg t (rsV t) (rsF t D) x.2.2.2.2 p (agT x.2.1 []).length (esl t (agP x.2.1 0 [])) ++ [(17, 0, nI x.2.2.2.1, 0)])[j]? = some e := he
    show (cg t (rsV t) (rsF t D) x.2.2.2.2 p (agT x.2.1 []).length (esl t (agP x.2.1 0 [])) ++ (17, 0, nI x.2.2.2.1, 0) :: cGd t D R (p + ln x.2.2.2.2 + 1))[0 + j]? = some e
    rw [Nat.zero_add, show ((17, 0, nI x.2.2.2.1, 0) :: cGd t D R (p + ln x.2.2.2.2 + 1) : List cdE) = [(17, 0, nI x.2.2.2.1, 0)] ++ cGd t D R (p + ln x.2.2.2.2 + 1) from rfl, ← List.append_assoc, List.getElem?_append_left (List.getElem?_eq_some_iff.mp he').1]
    exact he'
  | x :: R, p, i + 1, q, h => by
    intro j e he
    have e1 : stD (x :: R) (i + 1) = ln x.2.2.2.2 + 1 + stD R i := rfl
    have := cGd_at R (p + ln x.2.2.2.2 + 1) i q h j e (by rw [show p + ln x.2.2.2.2 + 1 + stD R i = p + stD (x :: R) (i + 1) by omega]; exact he)
    show (cg t (rsV t) (rsF t D) x.2.2.2.2 p (agT x.2.1 []).length (esl t (agP x.2.1 0 [])) ++ (17, 0, nI x.2.2.2.1, 0) :: cGd t D R (p + ln x.2.2.2.2 + 1))[stD (x :: R) (i + 1) + j]? = some e
    rw [e1, List.getElem?_append_right (by rw [cg_len]; omega), cg_len, show ln x.2.2.2.2 + 1 + stD R i + j - ln x.2.2.2.2 = stD R i + j + 1 by omega, List.getElem?_cons_succ]
    exact this
/-- what is known of a PROGRAM that was judged -/
def okJ (t : Nat → UInt8) (n : Nat) (D : List FD) : Prop := D.length ≤ 20 ∧ (∀ q ∈ D, okD t n q) ∧ jBd t D D = none
theorem okJ.t4 (h : okJ t n D) (f : Nat) : tkD D f ≤ 4 := by
  cases hq : D[f]? with
  | none => unfold tkD; rw [hq]; exact Nat.zero_le 4
  | some q => rw [(rBd_at hq).2.2.1]; exact (h.2.1 q (List.mem_of_getElem? hq)).2.1.2
theorem okJ.bd (h : okJ t n D) {f : Nat} {q : FD} (hq : D[f]? = some q) : okT t n q.2.2.2.2 0 0 0 0 ∧ ckF t D q.2.2.2.2 (ety t (agP q.2.1 0 [])) = none ∧ hR q.2.2.2.2 ≤ 180 := by
  have qm := List.mem_of_getElem? hq
  have o := h.2.1 q qm
  exact ⟨o.2.2.2.2.2.1, (m2_none.mp (show m2 (ckF t D q.2.2.2.2 (ety t (agP q.2.1 0 []))) (exQ (ckT t D q.2.2.2.2 (ety t (agP q.2.1 0 []))) q.2.2.1 q.2.2.2.1) = none from jBd_mem h.2.2 qm)).1, o.2.2.2.2.2.2.1⟩
/-- CALLS, so many of them left -/
theorem ex_call (hJ : okJ t n D) (hC : XC σ0 (cGd t D D 0)) (hR1 : ∀ f q, D[f]? = some q → σ0.1 65 f = nI q.2.1.length ∧ σ0.1 67 f = nI (stD D f)) : ∀ (K : Nat) (F : List (Nat × Nat)), F.length + K = 60 → CLX d σ0 F K D (rCl t D K) := by
  have hcl : (cGd t D D 0).length ≤ 3000 := hC.2.2.1
  intro K
  induction K with
  | zero =>
    intro F hF f vs A s p p0 v z Q σ dd hf hv hs hA hp hx hz hM hK
    have hq : D[f]? = some D[f] := List.getElem?_eq_getElem hf
    generalize D[f] = q at hq
    obtain ⟨r1, r2⟩ := hR1 f q hq
    have hl : vs.length = q.2.1.length := hv.1.trans (rBd_at hq).2.2.1
    have st : stD D f ≤ 3000 := by
      have := (cGd_at (t := t) (D := D) D 0 f q hq).r (q := stD D f + ln q.2.2.2.2) (by rw [cg_len])
      have := (List.getElem?_eq_some_iff.mp this.h).1
      omega
    refine (rx_enter (d := dd) (f := f) (rt := p) hx hC.1 (by have := hJ.1; omega) r1 r2 (by rw [List.length_append, List.length_reverse, hl]; omega) st hp).mono fun u σ9 hy => ?_
    obtain ⟨rfl, e9, h9⟩ := Qv_s hy
    refine ⟨e9, ?_⟩
    rcases h9 with ⟨c, -⟩ | ⟨-, h9⟩ | ⟨c, -⟩
    · omega
    · exact lx_err hC.1 h9 (by decide) (by decide) ((show kRb Q σ0 s 3 from hK) σ9 h9 (by decide) (by decide))
    · omega
  | succ K ih =>
    intro F hF f vs A s p p0 v z Q σ dd hf hv hs hA hp hx hz hM hK
    have hq : D[f]? = some D[f] := List.getElem?_eq_getElem hf
    generalize D[f] = q at hq
    obtain ⟨r1, r2⟩ := hR1 f q hq
    obtain ⟨b1, b2, b3, b4⟩ := rBd_at hq
    have hl : vs.length = q.2.1.length := hv.1.trans b3
    have t4 := hJ.t4 f
    rw [b3] at t4
    obtain ⟨o, ck, hr⟩ := hJ.bd hq
    have hA1 := cGd_at (t := t) (D := D) D 0 f q hq
    rw [Nat.zero_add] at hA1
    have hA2 := hA1.r (q := stD D f + ln q.2.2.2.2) (by rw [cg_len])
    have st := (List.getElem?_eq_some_iff.mp hA2.h).1
    have la : (vs.reverse ++ A).length = q.2.1.length + A.length := by rw [List.length_append, List.length_reverse, hl]
    refine (rx_enter (d := dd) (f := f) (rt := p) hx hC.1 (by have := hJ.1; omega) r1 r2 (by omega) (by omega) hp).mono fun u σ9 hy => ?_
    obtain ⟨rfl, e9, h9⟩ := Qv_s hy
    refine ⟨e9, ?_⟩
    have hK' : kRx d σ0 A F p z Q (if s.2.1 < 5000 then evT t D (rCl t D K) (rBd D f) none (rAr t (rAg D f) vs []) (s.1, s.2.1 + 1, max s.2.2 (60 - K)) else (s, .error 4)) := hK
    rw [b1, b2] at hK'
    rcases h9 with ⟨c1, c2, h9⟩ | ⟨c1, -⟩ | ⟨c1, c2, h9⟩
    · rw [if_pos c2, show 60 - K = F.length + 1 by omega] at hK'
      rw [show (vs.reverse ++ A).length - q.2.1.length = A.length by omega] at h9
      have he := enO_at (t := t) hq hv
      have cK := rCl_ty hJ.1 hJ.2.1 hJ.2.2 K
      have hD := gdD_of hJ.1 hJ.2.1
      have T1 := (ev_ty hD cK _ _ _ _ _ _ _ (s.1, s.2.1 + 1, max s.2.2 (F.length + 1)) o ck he hs).1 rfl
      have X1 := (ex_all hC hD hJ.t4 cK (ih ((A.length, p) :: F) (by rw [List.length_cons]; omega)) q.2.2.2.2 0 0 0 0 _ _ _ (s.1, s.2.1 + 1, max s.2.2 (F.length + 1)) (vs.reverse ++ A) (stD D f) (agT q.2.1 []).length o ck he hs (SL_at hl) (by rw [la, agT_len]; show A.length + (q.2.1.length + 0) = _; omega)).1 rfl (by omega) hA1.l
      refine X1 σ9 v (z - 1) Q h9 (by show v + 3001 * (5000 - (s.2.1 + 1)) + ln q.2.2.2.2 ≤ z - 1; omega) (by omega) ?_
      generalize evT t D (rCl t D K) q.2.2.2.2 none (rAr t q.2.1 vs []) (s.1, s.2.1 + 1, max s.2.2 (F.length + 1)) = r at hK' T1 ⊢
      obtain ⟨s1, x | us⟩ := r
      · exact hK'
      · obtain ⟨-, -, w, rfl, -⟩ := ev_v1 T1 rfl
        intro σ1 v1 hx1 hv1
        refine lx_step hC hA2.h hx1 (by have : v1 + 3001 * (5000 - s1.2.1) ≤ z - 1 := hv1; omega) fun σ2 hx2 => (s2_give (M := vs.reverse) (A := A) hx2 rfl).mono fun u σ3 hy => ?_
        obtain ⟨rfl, e3, h3⟩ := Qv_s hy
        exact ⟨e3, (show kRo d σ0 A F p z Q s1 [w] from hK') σ3 (v1 + 1) h3 (by have : v1 + 3001 * (5000 - s1.2.1) ≤ z - 1 := hv1; omega)⟩
    · omega
    · rw [if_neg c2] at hK'
      exact lx_err hC.1 h9 (by decide) (by decide) ((show kRb Q σ0 s 4 from hK') σ9 h9 (by decide) (by decide))
end XR0
