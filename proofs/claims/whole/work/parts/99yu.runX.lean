/-! THE CLASS judges: steps on end -/
section ZR
variable {t : Nat → UInt8} {n d en : Nat} {D : List FD} {σ0 : fkS} {C C' A Z : List cdE} {Ts Ps : List Nat} {pe : List pE1} {w w' : Option Nat} {v1 : Int32} {Q : Option Value → fkS → Prop} {p p' : Nat}
/-- from place p on the walk ends well -/
def RS (t : Nat → UInt8) (n d en : Nat) (D : List FD) (σ0 : fkS) (v1 : Int32) (Q : Option Value → fkS → Prop) (C : List cdE) (p : Nat) (Ts : List Nat) (pe : List pE1) (Ps : List Nat) (w : Option Nat) : Prop := ∀ σ, KZ t n D σ0 C Ts pe Ps w σ → ZW d en v1 p σ Q
theorem RS.cs (h : RS t n d en D σ0 v1 Q C p Ts pe Ps w) (hC : C' = C) (hp : p' = p) (hw : w' = w) : RS t n d en D σ0 v1 Q C' p' Ts pe Ps w' := by
  subst hC
  subst hp
  subst hw
  exact h
theorem RS.ct {Ts' : List Nat} (h : RS t n d en D σ0 v1 Q C p Ts pe Ps w) (hT : Ts' = Ts) : RS t n d en D σ0 v1 Q C p Ts' pe Ps w := by
  subst hT
  exact h
/-- NAMES, where they stand; NAMES, TYPES -/
def esl (t : Nat → UInt8) (pe : List pE1) : List (List Nat × Nat) := pe.map fun q => (nmT t q.1.1 q.1.2, q.2.1)
def ety (t : Nat → UInt8) (pe : List pE1) : List (List Nat × Nat) := pe.map fun q => (nmT t q.1.1 q.1.2, q.2.2)
theorem esl_c {a z s y : Nat} : esl t (((a, z), s, y) :: pe) = (nmT t a z, s) :: esl t pe := rfl
theorem ety_c {a z s y : Nat} : ety t (((a, z), s, y) :: pe) = (nmT t a z, y) :: ety t pe := rfl
/-- what stands in CODE when it is judged -/
def rsV (t : Nat → UInt8) (a z : Nat) (se : List (List Nat × Nat)) : Int64 := slO (wv t a z) (lk se (nmT t a z))
def rsF (t : Nat → UInt8) (D : List FD) (a z : Nat) : Int64 := slO (wv t a z) (fnI t D (nmT t a z) 0)
/-- each NAME has the TYPE that lies where it stands -/
def HP (Ts : List Nat) (pe : List pE1) : Prop := ∀ q ∈ pe, Ts.reverse[q.2.1]? = some q.2.2
theorem HP.up {x : Nat} (h : HP Ts pe) : HP (x :: Ts) pe := fun q hq => rev_in (M := [x]) (h q hq)
theorem HP.cn {a z s y : Nat} (h : HP Ts pe) (hs : Ts.reverse[s]? = some y) : HP Ts (((a, z), s, y) :: pe) := fun q hq => by
  rcases List.mem_cons.mp hq with rfl | hq
  · exact hs
  · exact h q hq
theorem r_int (A Z : List cdE) {p : Nat} {x : Int64} {u : Int32} (hl : Ts.length < 2000) (he : A.length < en) (hen : en ≤ 3000) (go : RS t n d en D σ0 v1 Q (A ++ ((0 : Int32), x, u, (0 : Int32)) :: Z) (A.length + 1) (1 :: Ts) pe Ps w) : RS t n d en D σ0 v1 Q (A ++ ((0 : Int32), x, u, (0 : Int32)) :: Z) A.length Ts pe Ps w := fun σ h => z_num (k := 0) (Or.inl ⟨rfl, rfl⟩) h rfl he hen hl (fun σ2 h2 => go σ2 h2)
theorem r_nil (A Z : List cdE) {p : Nat} {x : Int64} {u : Int32} (hl : Ts.length < 2000) (he : A.length < en) (hen : en ≤ 3000) (go : RS t n d en D σ0 v1 Q (A ++ ((4 : Int32), x, u, (0 : Int32)) :: Z) (A.length + 1) (2 :: Ts) pe Ps w) : RS t n d en D σ0 v1 Q (A ++ ((4 : Int32), x, u, (0 : Int32)) :: Z) A.length Ts pe Ps w := fun σ h => z_num (k := 4) (Or.inr ⟨rfl, rfl⟩) h rfl he hen hl (fun σ2 h2 => go σ2 h2)
theorem r_wnt (A Z : List cdE) {p : Nat} {x y : Nat} {v : Int64} (hv : v = lN y) (hy : y ≤ 3) (hp : p ≤ 4000) (he : A.length < en) (hen : en ≤ 3000) (go : RS t n d en D σ0 v1 Q (A ++ ((14 : Int32), v, nI p, (0 : Int32)) :: Z) (A.length + 1) (y :: Ts) pe Ps (m2 w (exQ x y p))) : RS t n d en D σ0 v1 Q (A ++ ((14 : Int32), v, nI p, (0 : Int32)) :: Z) A.length (x :: Ts) pe Ps w := fun σ h => z_wnt h rfl hv rfl hy hp he hen (fun σ2 h2 => go σ2 h2)
theorem r_cons (A Z : List cdE) {p : Nat} {x y : Nat} (he : A.length < en) (hen : en ≤ 3000) (go : RS t n d en D σ0 v1 Q (A ++ ((5 : Int32), (0 : Int64), (0 : Int32), (0 : Int32)) :: Z) (A.length + 1) (2 :: Ts) pe Ps w) : RS t n d en D σ0 v1 Q (A ++ ((5 : Int32), (0 : Int64), (0 : Int32), (0 : Int32)) :: Z) A.length (x :: y :: Ts) pe Ps w := fun σ h => z_cons h rfl he hen (fun σ2 h2 => go σ2 h2)
theorem r_two (A Z : List cdE) {p : Nat} {k x y : Nat} (hk : k = 6 ∨ 16 < k ∧ k < 1000 ∧ k ≠ 17) {o : Int32} (ho : o = nI k) (he : A.length < en) (hen : en ≤ 3000) (go : RS t n d en D σ0 v1 Q (A ++ (o, (0 : Int64), (0 : Int32), (0 : Int32)) :: Z) (A.length + 1) (1 :: Ts) pe Ps w) : RS t n d en D σ0 v1 Q (A ++ (o, (0 : Int64), (0 : Int32), (0 : Int32)) :: Z) A.length (x :: y :: Ts) pe Ps w := fun σ h => z_two hk h ho he hen (fun σ2 h2 => go σ2 h2)
theorem r_neg (A Z : List cdE) {p : Nat}  (he : A.length < en) (hen : en ≤ 3000) (go : RS t n d en D σ0 v1 Q (A ++ ((7 : Int32), (0 : Int64), (0 : Int32), (0 : Int32)) :: Z) (A.length + 1) Ts pe Ps w) : RS t n d en D σ0 v1 Q (A ++ ((7 : Int32), (0 : Int64), (0 : Int32), (0 : Int32)) :: Z) A.length Ts pe Ps w := fun σ h => z_neg h rfl he hen (fun σ2 h2 => go σ2 h2)
theorem r_if (A Z : List cdE) {p : Nat} {k x : Nat} (hk : k = 8 ∨ k = 10) {v : Int64} {o : Int32} (ho : o = nI k) (he : A.length < en) (hen : en ≤ 3000) (go : RS t n d en D σ0 v1 Q (A ++ (o, v, (0 : Int32), (0 : Int32)) :: Z) (A.length + 1) Ts pe Ps w) : RS t n d en D σ0 v1 Q (A ++ (o, v, (0 : Int32), (0 : Int32)) :: Z) A.length (x :: Ts) pe Ps w := fun σ h => z_if hk h ho he hen (fun σ2 h2 => go σ2 h2)
theorem r_skip (A Z : List cdE) {p : Nat} {x : Nat} {v : Int64} (hp : Ps.length < 40) (he : A.length < en) (hen : en ≤ 3000) (go : RS t n d en D σ0 v1 Q (A ++ ((9 : Int32), v, (0 : Int32), (0 : Int32)) :: Z) (A.length + 1) Ts pe (x :: Ps) w) : RS t n d en D σ0 v1 Q (A ++ ((9 : Int32), v, (0 : Int32), (0 : Int32)) :: Z) A.length (x :: Ts) pe Ps w := fun σ h => z_skip h rfl hp he hen (fun σ2 h2 => go σ2 h2)
theorem r_part (A Z : List cdE) {p : Nat} (hl : Ts.length + 1 < 2000) (he : A.length < en) (hen : en ≤ 3000) (go : RS t n d en D σ0 v1 Q (A ++ ((11 : Int32), (0 : Int64), (0 : Int32), (0 : Int32)) :: Z) (A.length + 1) (2 :: 1 :: Ts) pe Ps w) : RS t n d en D σ0 v1 Q (A ++ ((11 : Int32), (0 : Int64), (0 : Int32), (0 : Int32)) :: Z) A.length Ts pe Ps w := fun σ h => z_part h rfl hl he hen (fun σ2 h2 => go σ2 h2)
theorem r_bnd (A Z : List cdE) {a z k s y : Nat} {x : Int32} (hx : x = nI k) (hk : s + k = Ts.length) (hk1 : 1 ≤ k) (ho : nmOK t n a z) (hl : pe.length < 100) (he : A.length < en) (hen : en ≤ 3000) (go : RS t n d en D σ0 v1 Q (A ++ ((12 : Int32), wv t a z, (0 : Int32), x) :: Z) (A.length + 1) Ts (((a, z), s, y) :: pe) Ps w) : RS t n d en D σ0 v1 Q (A ++ ((12 : Int32), wv t a z, (0 : Int32), x) :: Z) A.length Ts pe Ps w := by
  have e : s = Ts.length - k := by omega
  subst e
  exact fun σ h => z_bnd h rfl rfl hx (by omega) hk1 ho hl he hen (fun σ2 h2 => go σ2 h2)
theorem r_unb (A Z : List cdE) {x k : Nat} {v : Int64} (hv : v = lN k) {L : List Nat} {M : List pE1} (hL : L.length = k) (hM : M.length = k) (he : A.length < en) (hen : en ≤ 3000) (go : RS t n d en D σ0 v1 Q (A ++ ((13 : Int32), v, (0 : Int32), (0 : Int32)) :: Z) (A.length + 1) (x :: Ts) pe Ps w) : RS t n d en D σ0 v1 Q (A ++ ((13 : Int32), v, (0 : Int32), (0 : Int32)) :: Z) A.length (x :: (L ++ Ts)) (M ++ pe) Ps w := fun σ h => z_unb h rfl hv hL hM he hen (fun σ2 h2 => go σ2 h2)
theorem r_join (A Z : List cdE) {x y p : Nat} (hp : p ≤ 4000) (he : A.length < en) (hen : en ≤ 3000) (go : RS t n d en D σ0 v1 Q (A ++ ((16 : Int32), (0 : Int64), nI p, (0 : Int32)) :: Z) (A.length + 1) (y :: Ts) pe Ps (m2 w (exQ x y p))) : RS t n d en D σ0 v1 Q (A ++ ((16 : Int32), (0 : Int64), nI p, (0 : Int32)) :: Z) A.length (x :: Ts) pe (y :: Ps) w := fun σ h => z_join h rfl rfl hp he hen (fun σ2 h2 => go σ2 h2)
theorem r_nm (A Z : List cdE) {a z : Nat} (hn : n ≤ 4000) (ho : nmOK t n a z) (hl : Ts.length < 2000) (hpe : HP Ts pe) (he : A.length < en) (hen : en ≤ 3000) (go : RS t n d en D σ0 v1 Q (A ++ ((1 : Int32), rsV t a z (esl t pe), nI a, (0 : Int32)) :: Z) (A.length + 1) ((lk (ety t pe) (nmT t a z)).getD 0 :: Ts) pe Ps (m2 w (if lk (ety t pe) (nmT t a z) = none then some a else none))) : RS t n d en D σ0 v1 Q (A ++ ((1 : Int32), wv t a z, nI a, (0 : Int32)) :: Z) A.length Ts pe Ps w := fun σ h => z_nm hn h ho hl hpe he hen (fun σ2 h2 => go σ2 h2)
theorem r_pass (A Z : List cdE) {a z q k x : Nat} (ho : nmOK t n a z) (hp : q ≤ 4000) (hk : k ≤ 400) (he : A.length < en) (hen : en ≤ 3000) (go : ∀ y, RS t n d en D σ0 v1 Q (A ++ ((15 : Int32), wv t a z, nI q, nI k) :: Z) (A.length + 1) (y :: Ts) pe Ps (m2 w (exQ x (atD t D (nmT t a z) k) q))) : RS t n d en D σ0 v1 Q (A ++ ((15 : Int32), wv t a z, nI q, nI k) :: Z) A.length (x :: Ts) pe Ps w := fun σ h => z_pass h ho hp hk he hen (fun y σ2 h2 => go y σ2 h2)
theorem r_call (A Z : List cdE) {a z c : Nat} {L : List Nat} (hn : n ≤ 4000) (hL : L.length = c) (ho : nmOK t n a z) (hl : Ts.length < 2000) (he : A.length < en) (hen : en ≤ 3000) (go : RS t n d en D σ0 v1 Q (A ++ ((2 : Int32), rsF t D a z, nI a, nI c) :: Z) (A.length + 1) (gvO D (fnI t D (nmT t a z) 0) :: Ts) pe Ps (m2 w (tkO D a c (fnI t D (nmT t a z) 0)))) : RS t n d en D σ0 v1 Q (A ++ ((2 : Int32), wv t a z, nI a, nI c) :: Z) A.length (L ++ Ts) pe Ps w := fun σ h => z_call hn h hL ho hl he hen (fun σ2 h2 => go σ2 h2)
theorem r_act (A Z : List cdE) {a z c : Nat} (hn : n ≤ 4000) (hc : c ≤ 4000) (ho : nmOK t n a z) (hl : Ts.length < 2000) (he : A.length < en) (hen : en ≤ 3000) (go : RS t n d en D σ0 v1 Q (A ++ ((3 : Int32), rsF t D a z, nI a, nI c) :: Z) (A.length + 1) (3 :: Ts) pe Ps (m2 w (acO D a c (fnI t D (nmT t a z) 0)))) : RS t n d en D σ0 v1 Q (A ++ ((3 : Int32), wv t a z, nI a, nI c) :: Z) A.length Ts pe Ps w := fun σ h => z_act hn hc h ho hl he hen (fun σ2 h2 => go σ2 h2)
end ZR
