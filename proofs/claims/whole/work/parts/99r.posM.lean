/-! RUNNING, the reference: where it goes on -/
section POSM
variable {t : Nat → UInt8} {n b N d f i j k p q tk lab : Nat} {m : Md} {σ σ' : fkS} {L L2 S S2 A : List Int64} {e e2 : Env} {fs : List Fm} {v w : Int64} {I : In} {Q : fkS → Prop} {J : JS} {bk : Bk}
/-- where the next one stands -/
theorem okFn.nxp (h : okFn t n m f) (h1 : fiS (fiAt m f) ≤ i) (h2 : i ≤ fiE (fiAt m f)) (hI : (mdC m).2[i]? = some I) : ∃ q, pI t n ((mdC m).2.take i) I.1 = .inl (I, q) ∧ (i < fiE (fiAt m f) → posOf (mdC m).2 (i + 1) = q) := by
  obtain ⟨q, u1, u2⟩ := h.rd.2 i I h1 h2 hI
  refine ⟨q, u1, fun hlt => ?_⟩
  obtain ⟨I2, hI2, -⟩ := h.ins (i := i + 1) (by omega)
  rw [posOf_get hI2]
  exact u2 I2 hlt hI2
/-- where it stands: its first byte -/
theorem okFn.byte (h : okFn t n m f) (h1 : fiS (fiAt m f) ≤ i) (h2 : i ≤ fiE (fiAt m f)) (hI : (mdC m).2[i]? = some I) : I.1 < n ∧ (t I.1).toNat = iOp I := by
  obtain ⟨q, u1, -⟩ := h.nxp h1 h2 hI
  have hpl := pI_l u1
  exact ⟨by omega, hpl.2.1.symm⟩
/-- behind an INSTRUCTION of one byte -/
theorem okFn.nx1 (h : okFn t n m f) (h1 : fiS (fiAt m f) ≤ i) (h2 : i < fiE (fiAt m f)) (hI : (mdC m).2[i]? = some I) (ho : noOp (iOp I)) : posOf (mdC m).2 (i + 1) = I.1 + 1 := by
  obtain ⟨q, u1, u2⟩ := h.nxp h1 (by omega) hI
  rw [u2 h2]
  exact (pI_ops u1).1.2.2.2.2.2.2.2.2 ho
/-- block, loop, if: the byte behind -/
theorem okFn.bty (h : okFn t n m f) (h1 : fiS (fiAt m f) ≤ i) (h2 : i ≤ fiE (fiAt m f)) (hI : (mdC m).2[i]? = some I) (h24 : 2 ≤ iOp I ∧ iOp I ≤ 4) : I.1 + 1 < n ∧ ((t (I.1 + 1)).toNat = 64 ↔ iB I = 0) ∧ (i < fiE (fiAt m f) → posOf (mdC m).2 (i + 1) = I.1 + 2) := by
  obtain ⟨q, u1, u2⟩ := h.nxp h1 h2 hI
  obtain ⟨e1, e2, e3⟩ := (pI_ops u1).1.2.2.2.2.2.2.2.1 h24
  refine ⟨e2, ?_, fun hlt => by rw [u2 hlt, e1]⟩
  have h3 := (pI_l u1).2.2.2.2.2
  unfold pI2 at h3
  rw [if_neg (by omega), if_neg (by omega), if_pos h24] at h3
  have hT : (t (I.1 + 1)).toNat = 64 ∨ isT (t (I.1 + 1)).toNat := by
    by_cases z : 20 ≤ (sk ((mdC m).2.take i) ((mdC m).2.take i).length).length
    · rw [if_pos z] at h3
      cases h3
    · rw [if_neg z] at h3
      obtain ⟨B, q1, hb, -⟩ := bR_inl h3
      unfold pBt at hb
      by_cases y : I.1 + 1 < n ∧ (t (I.1 + 1)).toNat = 64
      · exact .inl y.2
      · rw [if_neg y] at hb
        obtain ⟨-, g1, g2, -⟩ := nT_l hb
        rw [g2] at g1
        exact .inr g1
  rw [e3]
  constructor
  · intro z
    rw [if_pos z]
  · intro z
    by_cases y : (t (I.1 + 1)).toNat = 64
    · exact y
    · rw [if_neg y] at z
      rcases hT with u | u
      · exact u
      · exact absurd z (isT_ne u)
/-- the blocks of one place stand at another, too -/
def subB (t : Nat → UInt8) (m : Md) (f i i2 : Nat) : Prop := ∀ (j : Nat) (x : Bk) (o : Nat), (jB (jAt t m f i2))[j]? = some x → bkO x = some o → ∃ y, (jB (jAt t m f i))[j]? = some y ∧ bkO y = some o ∧ bkF y = bkF x
theorem subB.rf : subB t m f i i := fun _ x _ h ho => ⟨x, h, ho, rfl⟩
theorem subB.eq {i2 : Nat} (h : jB (jAt t m f i2) = jB (jAt t m f i)) : subB t m f i i2 := fun _ x _ hx ho => ⟨x, by rw [← h]; exact hx, ho, rfl⟩
theorem subB.take {i2 l : Nat} (h : jB (jAt t m f i2) = (jB (jAt t m f i)).take l) : subB t m f i i2 := fun j x _ hx ho => by
  rw [h, List.getElem?_take] at hx
  by_cases z : j < l
  · rw [if_pos z] at hx
    exact ⟨x, hx, ho, rfl⟩
  · rw [if_neg z] at hx
    cases hx
/-- the innermost frame stands elsewhere -/
theorem PQ.mv {i2 : Nat} {R : List Int64} {tr : Nat} {sp : Bool} (h : PQ t m ((f, i, L, S) :: fs, R, e, tk, tr, sp) p σ) (hs : subB t m f i i2) (h74 : σ.1 103 74 = nI (((jB (jAt t m f i)).length - 1) + nlb t m fs) → σ'.1 103 74 = nI (((jB (jAt t m f i2)).length - 1) + nlb t m fs)) (f0 : Fr (fun c j => Nat.beq c 103 && (Nat.beq j 40 || Nat.beq j 74)) σ σ') (h40 : σ'.1 103 40 = nI q) : PQ t m ((f, i2, L, S) :: fs, R, e, tk, tr, sp) q σ' := by
  obtain ⟨h1, h2, h3, h4, h5⟩ := h
  refine ⟨h1.fr f0 (fun _ => rfl) (fun _ => rfl) rfl, (f0 _ _ rfl).1.trans h2, (f0 _ _ rfl).1.trans h3, (f0 _ _ rfl).1.trans h4, fun z1 z2 => ?_⟩
  obtain ⟨o1, o2, o3, o4, o5, o6⟩ := h5 z1 z2
  refine ⟨o1.fr f0 rfl fun _ => rfl, ?_, ⟨fun j x o hx ho => ?_, o3.2.fr f0 (fun _ => rfl) fun _ => rfl⟩, (f0 _ _ rfl).1.trans o4, h74 o5, h40⟩
  · have o2' : locM σ ((f, i2, L, S) :: fs) := o2
    exact o2'.fr f0 fun _ => rfl
  · obtain ⟨y, y1, y2, y3⟩ := hs (j + 1) x o hx ho
    obtain ⟨g1, g2⟩ := o3.1 j y o y1 y2
    rw [← y3]
    exact ⟨(f0 _ _ rfl).1.trans g1, (f0 _ _ rfl).1.trans g2⟩
end POSM
