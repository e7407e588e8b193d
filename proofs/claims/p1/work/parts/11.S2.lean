/-! THE WALKS of the methods as predicates, by program (wip/whole/gen/gen_S.py). Cells: wip/whole/gen/cells.py prints them. -/
-- not here: Judge_<init>
def B_Judge_verdictOn : fkB := [(0, [(.aload_n 0, 1, []), (.aload_n 1, 1, []), (.putfield 9, 3, [3, 0, 561, 0]), (.aload_n 0, 1, []), (.aload_n 1, 1, []), (.getfield 36, 3, [6, 19, 452, 1]), (.putfield 15, 3, [3, 1, 562, 0]), (.aload_n 0, 1, []), (.invokevirtual 41, 3, [58, 0, 1130, 0, 4, 3]), (.ifCond .eq 25, 3, [42])]),
  (20, [(.aload_n 0, 1, []), (.getfield 9, 3, [3, 0, 561, 0]), (.getfield 45, 3, [6, 5, 398, 1]), (.iconst 1, 1, []), (.if_icmp .gt 14, 3, [42])]),
  (31, [(.aload_n 0, 1, []), (.getfield 9, 3, [3, 0, 561, 0]), (.getfield 49, 3, [6, 7, 406, 1]), (.iconst 1, 1, []), (.if_icmp .le 6, 3, [45])]),
  (42, [(.bipush (-3), 2, []), (.ireturn, 1, [])]),
  (45, [(.aload_n 0, 1, []), (.getfield 9, 3, [3, 0, 561, 0]), (.getfield 45, 3, [6, 5, 398, 1]), (.iconst 1, 1, []), (.if_icmp .ne 19, 3, [72])]),
  (56, [(.aload_n 0, 1, []), (.aload_n 0, 1, []), (.getfield 9, 3, [3, 0, 561, 0]), (.getfield 52, 3, [6, 6, 403, 1]), (.bipush 100, 2, []), (.invokevirtual 56, 3, [59, 2, 1134, 0, 4, 3]), (.goto 4, 3, [73])]),
  (72, [(.iconst 0, 1, [])]),
  (73, [(.istore_n 2, 1, []), (.iload_n 2, 1, []), (.ifCond .ne 27, 3, [102])]),
  (78, [(.aload_n 0, 1, []), (.getfield 9, 3, [3, 0, 561, 0]), (.getfield 49, 3, [6, 7, 406, 1]), (.iconst 1, 1, []), (.if_icmp .ne 16, 3, [102])]),
  (89, [(.aload_n 0, 1, []), (.aload_n 0, 1, []), (.getfield 9, 3, [3, 0, 561, 0]), (.getfield 60, 3, [6, 8, 411, 1]), (.iconst 2, 1, []), (.invokevirtual 56, 3, [59, 2, 1134, 0, 4, 3]), (.istore_n 2, 1, [])]),
  (102, [(.iload_n 2, 1, []), (.ifCond .eq 5, 3, [108])]),
  (106, [(.iload_n 2, 1, []), (.ireturn, 1, [])]),
  (108, [(.aload_n 0, 1, []), (.invokevirtual 63, 3, [60, 0, 1138, 0, 4, 3]), (.ifCond .eq 17, 3, [129])]),
  (115, [(.aload_n 0, 1, []), (.invokevirtual 66, 3, [61, 0, 1142, 0, 4, 3]), (.ifCond .eq 10, 3, [129])]),
  (122, [(.aload_n 0, 1, []), (.invokevirtual 69, 3, [66, 0, 1162, 0, 4, 3]), (.ifCond .ne 6, 3, [132])]),
  (129, [(.bipush (-3), 2, []), (.ireturn, 1, [])]),
  (132, [(.iconst 0, 1, []), (.istore_n 3, 1, [])]),
  (134, [(.iload_n 3, 1, []), (.aload_n 0, 1, []), (.getfield 9, 3, [3, 0, 561, 0]), (.getfield 72, 3, [6, 3, 388, 1]), (.if_icmp .ge 20, 3, [162])]),
  (145, [(.aload_n 0, 1, []), (.iload_n 3, 1, []), (.invokevirtual 75, 3, [67, 1, 1166, 0, 4, 3]), (.ifCond .ne 6, 3, [156])]),
  (153, [(.bipush (-3), 2, []), (.ireturn, 1, [])]),
  (156, [(.iinc 3 1, 3, []), (.goto (-25), 3, [134])]),
  (162, [(.iconst 0, 1, []), (.ireturn, 1, [])])]
set_option maxRecDepth 100000 in
theorem ok_Judge_verdictOn : fk_okM 57 B_Judge_verdictOn = true := by decide +kernel
abbrev C_Judge_verdictOn : fkC := [(73, [true, false, false, false]), (102, [true, false, true, false]), (134, [true, false, false, true])]
set_option maxRecDepth 100000 in
set_option maxHeartbeats 4000000 in
theorem S_Judge_verdictOn {d : Nat}  {σ : fkS} {Q : Option Value → fkS → Prop} 
  (h : (Di d 58 [.ref 50] (sR (sR σ 50 0 25) 50 1 37) (fun x2 σ1 =>
  ((x2 = 0 →
    Q (some (.int (-3 : Int32))) (sW σ1 (sR (sR σ 50 0 25) 50 1 37))) ∧
   (¬ x2 = 0 →
    (¬ (25 : Nat) = 0 ∧
    (((1 : Int32) < ((sW σ1 (sR (sR σ 50 0 25) 50 1 37)).1 24 5) →
      Q (some (.int (-3 : Int32))) (sW σ1 (sR (sR σ 50 0 25) 50 1 37))) ∧
     (¬ (1 : Int32) < ((sW σ1 (sR (sR σ 50 0 25) 50 1 37)).1 24 5) →
      (¬ (25 : Nat) = 0 ∧
      ((((sW σ1 (sR (sR σ 50 0 25) 50 1 37)).1 24 7) ≤ (1 : Int32) →
        (¬ (25 : Nat) = 0 ∧
        ((¬ ((sW σ1 (sR (sR σ 50 0 25) 50 1 37)).1 24 5) = (1 : Int32) →
          Wq 57 (d + 1) 73 [some (.ref 50), none, none, none] [.int (0 : Int32)] (sW σ1 (sR (sR σ 50 0 25) 50 1 37)) Q) ∧
         (((sW σ1 (sR (sR σ 50 0 25) 50 1 37)).1 24 5) = (1 : Int32) →
          (¬ (25 : Nat) = 0 ∧
          (Di d 59 [.ref 50, .ref 28, .int (100 : Int32)] (sW σ1 (sR (sR σ 50 0 25) 50 1 37)) (fun x4 σ3 =>
          Wq 57 (d + 1) 73 [some (.ref 50), none, none, none] [.int x4] (sW σ3 (sR (sR σ 50 0 25) 50 1 37)) Q))))))) ∧
       (¬ ((sW σ1 (sR (sR σ 50 0 25) 50 1 37)).1 24 7) ≤ (1 : Int32) →
        Q (some (.int (-3 : Int32))) (sW σ1 (sR (sR σ 50 0 25) 50 1 37))))))))))))) :
  Cl (d + 1) 57 [.ref 50, .ref 24] σ Q := by
  exact Cl.run B_Judge_verdictOn C_Judge_verdictOn 25 fk_q57 ok_Judge_verdictOn rfl h
set_option maxRecDepth 100000 in
set_option maxHeartbeats 4000000 in
theorem S_Judge_verdictOn_73 {d : Nat} {s0 : Int32} {σ : fkS} {Q : Option Value → fkS → Prop} (h50_0 : σ.2.2 50 0 = 25)
  (h : ((¬ s0 = 0 →
    Wq 57 (d + 1) 102 [some (.ref 50), none, some (.int s0), none] [] σ Q) ∧
   (s0 = 0 →
    (¬ (25 : Nat) = 0 ∧
    ((¬ (σ.1 24 7) = (1 : Int32) →
      Wq 57 (d + 1) 102 [some (.ref 50), none, some (.int s0), none] [] σ Q) ∧
     ((σ.1 24 7) = (1 : Int32) →
      (¬ (25 : Nat) = 0 ∧
      (Di d 59 [.ref 50, .ref 29, .int (2 : Int32)] σ (fun x2 σ1 =>
      Wq 57 (d + 1) 102 [some (.ref 50), none, some (.int x2), none] [] (sW σ1 σ) Q))))))))) :
  Wq 57 (d + 1) 73 [some (.ref 50), none, none, none] [.int s0] σ Q := by
  rw [← sR_eta h50_0] at h ⊢
  exact fk_run_sound (B := B_Judge_verdictOn) (C := C_Judge_verdictOn) (n := 25) ok_Judge_verdictOn h
set_option maxRecDepth 100000 in
set_option maxHeartbeats 4000000 in
theorem S_Judge_verdictOn_102 {d : Nat} {v2 : Int32} {σ : fkS} {Q : Option Value → fkS → Prop} 
  (h : ((v2 = 0 →
    (Di d 60 [.ref 50] σ (fun x2 σ1 =>
    ((x2 = 0 →
      Q (some (.int (-3 : Int32))) (sW σ1 σ)) ∧
     (¬ x2 = 0 →
      (Di d 61 [.ref 50] (sW σ1 σ) (fun x4 σ3 =>
      ((x4 = 0 →
        Q (some (.int (-3 : Int32))) (sW σ3 σ)) ∧
       (¬ x4 = 0 →
        (Di d 66 [.ref 50] (sW σ3 σ) (fun x6 σ5 =>
        ((¬ x6 = 0 →
          Wq 57 (d + 1) 134 [some (.ref 50), none, none, some (.int (0 : Int32))] [] (sW σ5 σ) Q) ∧
         (x6 = 0 →
          Q (some (.int (-3 : Int32))) (sW σ5 σ)))))))))))))) ∧
   (¬ v2 = 0 →
    Q (some (.int v2)) σ))) :
  Wq 57 (d + 1) 102 [some (.ref 50), none, some (.int v2), none] [] σ Q := by
  exact fk_run_sound (B := B_Judge_verdictOn) (C := C_Judge_verdictOn) (n := 25) ok_Judge_verdictOn h
set_option maxRecDepth 100000 in
set_option maxHeartbeats 4000000 in
theorem S_Judge_verdictOn_134 {d : Nat} {v3 : Int32} {σ : fkS} {Q : Option Value → fkS → Prop} (h50_0 : σ.2.2 50 0 = 25)
  (h : (¬ (25 : Nat) = 0 ∧
  (((σ.1 24 3) ≤ v3 →
    Q (some (.int (0 : Int32))) σ) ∧
   (¬ (σ.1 24 3) ≤ v3 →
    (Di d 67 [.ref 50, .int v3] σ (fun x2 σ1 =>
    ((¬ x2 = 0 →
      Wq 57 (d + 1) 134 [some (.ref 50), none, none, some (.int (v3 + (1 : Int32)))] [] (sW σ1 σ) Q) ∧
     (x2 = 0 →
      Q (some (.int (-3 : Int32))) (sW σ1 σ))))))))) :
  Wq 57 (d + 1) 134 [some (.ref 50), none, none, some (.int v3)] [] σ Q := by
  rw [← sR_eta h50_0] at h ⊢
  exact fk_run_sound (B := B_Judge_verdictOn) (C := C_Judge_verdictOn) (n := 25) ok_Judge_verdictOn h
def B_Judge_typesAreThere : fkB := [(0, [(.iconst 0, 1, []), (.istore_n 1, 1, [])]),
  (2, [(.iload_n 1, 1, []), (.aload_n 0, 1, []), (.getfield 9, 3, [3, 0, 561, 0]), (.getfield 72, 3, [6, 3, 388, 1]), (.if_icmp .ge 42, 3, [52])]),
  (13, [(.aload_n 0, 1, []), (.getfield 9, 3, [3, 0, 561, 0]), (.getfield 79, 3, [6, 4, 392, 1]), (.iload_n 1, 1, []), (.iaload, 1, []), (.ifCond .lt 22, 3, [44])]),
  (25, [(.aload_n 0, 1, []), (.getfield 9, 3, [3, 0, 561, 0]), (.getfield 79, 3, [6, 4, 392, 1]), (.iload_n 1, 1, []), (.iaload, 1, []), (.aload_n 0, 1, []), (.getfield 9, 3, [3, 0, 561, 0]), (.getfield 82, 3, [6, 1, 382, 1]), (.if_icmp .lt 5, 3, [46])]),
  (44, [(.iconst 0, 1, []), (.ireturn, 1, [])]),
  (46, [(.iinc 1 1, 3, []), (.goto (-47), 3, [2])]),
  (52, [(.iconst 1, 1, []), (.ireturn, 1, [])])]
set_option maxRecDepth 100000 in
theorem ok_Judge_typesAreThere : fk_okM 58 B_Judge_typesAreThere = true := by decide +kernel
abbrev C_Judge_typesAreThere : fkC := [(2, [true, true])]
set_option maxRecDepth 100000 in
set_option maxHeartbeats 4000000 in
theorem S_Judge_typesAreThere {d : Nat}  {σ : fkS} {Q : Option Value → fkS → Prop} 
  (h : Wq 58 d 2 [some (.ref 50), some (.int (0 : Int32))] [] σ Q) :
  Cl d 58 [.ref 50] σ Q := by
  exact Cl.run B_Judge_typesAreThere C_Judge_typesAreThere 10 fk_q58 ok_Judge_typesAreThere rfl h
set_option maxRecDepth 100000 in
set_option maxHeartbeats 4000000 in
theorem S_Judge_typesAreThere_2 {d : Nat} {v1 : Int32} {σ : fkS} {Q : Option Value → fkS → Prop} (h50_0 : σ.2.2 50 0 = 25)
  (h : (¬ (25 : Nat) = 0 ∧
  (((σ.1 24 3) ≤ v1 →
    Q (some (.int (1 : Int32))) σ) ∧
   (¬ (σ.1 24 3) ≤ v1 →
    (¬ (25 : Nat) = 0 ∧
    (vp_in v1 60 ∧
    (((σ.1 27 v1.toNatClampNeg) < 0 →
      Q (some (.int (0 : Int32))) σ) ∧
     (¬ (σ.1 27 v1.toNatClampNeg) < 0 →
      (¬ (25 : Nat) = 0 ∧
      (vp_in v1 60 ∧
      (¬ (25 : Nat) = 0 ∧
      (((σ.1 27 v1.toNatClampNeg) < (σ.1 24 1) →
        Wq 58 d 2 [some (.ref 50), some (.int (v1 + (1 : Int32)))] [] σ Q) ∧
       (¬ (σ.1 27 v1.toNatClampNeg) < (σ.1 24 1) →
        Q (some (.int (0 : Int32))) σ))))))))))))) :
  Wq 58 d 2 [some (.ref 50), some (.int v1)] [] σ Q := by
  rw [← sR_eta h50_0] at h ⊢
  exact fk_run_sound (B := B_Judge_typesAreThere) (C := C_Judge_typesAreThere) (n := 10) ok_Judge_typesAreThere h
def B_Judge_limitsVerdict : fkB := [(0, [(.aload_n 1, 1, []), (.iconst 1, 1, []), (.laload, 1, []), (.lconst 0, 1, []), (.lcmp, 1, []), (.ifCond .lt 16, 3, [21])]),
  (8, [(.aload_n 1, 1, []), (.iconst 1, 1, []), (.laload, 1, []), (.aload_n 1, 1, []), (.iconst 0, 1, []), (.laload, 1, []), (.lcmp, 1, []), (.ifCond .ge 6, 3, [21])]),
  (18, [(.bipush (-3), 2, []), (.ireturn, 1, [])]),
  (21, [(.aload_n 1, 1, []), (.iconst 0, 1, []), (.laload, 1, []), (.iload_n 2, 1, []), (.i2l, 1, []), (.lcmp, 1, []), (.ifCond .gt 12, 3, [39])]),
  (30, [(.aload_n 1, 1, []), (.iconst 1, 1, []), (.laload, 1, []), (.iload_n 2, 1, []), (.i2l, 1, []), (.lcmp, 1, []), (.ifCond .le 8, 3, [44])]),
  (39, [(.bipush (-2), 2, []), (.goto 4, 3, [45])]),
  (44, [(.iconst 0, 1, [])]),
  (45, [(.ireturn, 1, [])])]
set_option maxRecDepth 100000 in
theorem ok_Judge_limitsVerdict : fk_okM 59 B_Judge_limitsVerdict = true := by decide +kernel
abbrev C_Judge_limitsVerdict : fkC := [(21, [false, true, true])]
set_option maxRecDepth 100000 in
set_option maxHeartbeats 4000000 in
theorem S_Judge_limitsVerdict {d : Nat} {a1 : Int32} {σ : fkS} {Q : Option Value → fkS → Prop} 
  (h : (vp_in (1 : Int32) 2 ∧
  (((lg_cmp (σ.2.1 28 ((1 : Int32).toNatClampNeg)) (0 : Int64)) < 0 →
    Wq 59 d 21 [none, some (.ref 28), some (.int a1)] [] σ Q) ∧
   (¬ (lg_cmp (σ.2.1 28 ((1 : Int32).toNatClampNeg)) (0 : Int64)) < 0 →
    (vp_in (1 : Int32) 2 ∧
    (vp_in (0 : Int32) 2 ∧
    ((0 ≤ (lg_cmp (σ.2.1 28 ((1 : Int32).toNatClampNeg)) (σ.2.1 28 ((0 : Int32).toNatClampNeg))) →
      Wq 59 d 21 [none, some (.ref 28), some (.int a1)] [] σ Q) ∧
     (¬ 0 ≤ (lg_cmp (σ.2.1 28 ((1 : Int32).toNatClampNeg)) (σ.2.1 28 ((0 : Int32).toNatClampNeg))) →
      Q (some (.int (-3 : Int32))) σ)))))))) :
  Cl d 59 [.ref 50, .ref 28, .int a1] σ Q := by
  exact Cl.run B_Judge_limitsVerdict C_Judge_limitsVerdict 11 fk_q59 ok_Judge_limitsVerdict rfl h
set_option maxRecDepth 100000 in
set_option maxHeartbeats 4000000 in
theorem S_Judge_limitsVerdict_21 {d : Nat} {v2 : Int32} {σ : fkS} {Q : Option Value → fkS → Prop} 
  (h : (vp_in (0 : Int32) 2 ∧
  ((0 < (lg_cmp (σ.2.1 28 ((0 : Int32).toNatClampNeg)) v2.toInt64) →
    Q (some (.int (-2 : Int32))) σ) ∧
   (¬ 0 < (lg_cmp (σ.2.1 28 ((0 : Int32).toNatClampNeg)) v2.toInt64) →
    (vp_in (1 : Int32) 2 ∧
    (((lg_cmp (σ.2.1 28 ((1 : Int32).toNatClampNeg)) v2.toInt64) ≤ 0 →
      Q (some (.int (0 : Int32))) σ) ∧
     (¬ (lg_cmp (σ.2.1 28 ((1 : Int32).toNatClampNeg)) v2.toInt64) ≤ 0 →
      Q (some (.int (-2 : Int32))) σ))))))) :
  Wq 59 d 21 [none, some (.ref 28), some (.int v2)] [] σ Q := by
  exact fk_run_sound (B := B_Judge_limitsVerdict) (C := C_Judge_limitsVerdict) (n := 11) ok_Judge_limitsVerdict h
def B_Judge_limitsVerdict_v1 : fkB := [(0, [(.aload_n 1, 1, []), (.iconst 1, 1, []), (.laload, 1, []), (.lconst 0, 1, []), (.lcmp, 1, []), (.ifCond .lt 16, 3, [21])]),
  (8, [(.aload_n 1, 1, []), (.iconst 1, 1, []), (.laload, 1, []), (.aload_n 1, 1, []), (.iconst 0, 1, []), (.laload, 1, []), (.lcmp, 1, []), (.ifCond .ge 6, 3, [21])]),
  (18, [(.bipush (-3), 2, []), (.ireturn, 1, [])]),
  (21, [(.aload_n 1, 1, []), (.iconst 0, 1, []), (.laload, 1, []), (.iload_n 2, 1, []), (.i2l, 1, []), (.lcmp, 1, []), (.ifCond .gt 12, 3, [39])]),
  (30, [(.aload_n 1, 1, []), (.iconst 1, 1, []), (.laload, 1, []), (.iload_n 2, 1, []), (.i2l, 1, []), (.lcmp, 1, []), (.ifCond .le 8, 3, [44])]),
  (39, [(.bipush (-2), 2, []), (.goto 4, 3, [45])]),
  (44, [(.iconst 0, 1, [])]),
  (45, [(.ireturn, 1, [])])]
set_option maxRecDepth 100000 in
theorem ok_Judge_limitsVerdict_v1 : fk_okM 59 B_Judge_limitsVerdict_v1 = true := by decide +kernel
abbrev C_Judge_limitsVerdict_v1 : fkC := [(21, [false, true, true])]
set_option maxRecDepth 100000 in
set_option maxHeartbeats 4000000 in
theorem S_Judge_limitsVerdict_v1 {d : Nat} {a1 : Int32} {σ : fkS} {Q : Option Value → fkS → Prop} 
  (h : (vp_in (1 : Int32) 2 ∧
  (((lg_cmp (σ.2.1 29 ((1 : Int32).toNatClampNeg)) (0 : Int64)) < 0 →
    Wq 59 d 21 [none, some (.ref 29), some (.int a1)] [] σ Q) ∧
   (¬ (lg_cmp (σ.2.1 29 ((1 : Int32).toNatClampNeg)) (0 : Int64)) < 0 →
    (vp_in (1 : Int32) 2 ∧
    (vp_in (0 : Int32) 2 ∧
    ((0 ≤ (lg_cmp (σ.2.1 29 ((1 : Int32).toNatClampNeg)) (σ.2.1 29 ((0 : Int32).toNatClampNeg))) →
      Wq 59 d 21 [none, some (.ref 29), some (.int a1)] [] σ Q) ∧
     (¬ 0 ≤ (lg_cmp (σ.2.1 29 ((1 : Int32).toNatClampNeg)) (σ.2.1 29 ((0 : Int32).toNatClampNeg))) →
      Q (some (.int (-3 : Int32))) σ)))))))) :
  Cl d 59 [.ref 50, .ref 29, .int a1] σ Q := by
  exact Cl.run B_Judge_limitsVerdict_v1 C_Judge_limitsVerdict_v1 11 fk_q59 ok_Judge_limitsVerdict_v1 rfl h
set_option maxRecDepth 100000 in
set_option maxHeartbeats 4000000 in
theorem S_Judge_limitsVerdict_v1_21 {d : Nat} {v2 : Int32} {σ : fkS} {Q : Option Value → fkS → Prop} 
  (h : (vp_in (0 : Int32) 2 ∧
  ((0 < (lg_cmp (σ.2.1 29 ((0 : Int32).toNatClampNeg)) v2.toInt64) →
    Q (some (.int (-2 : Int32))) σ) ∧
   (¬ 0 < (lg_cmp (σ.2.1 29 ((0 : Int32).toNatClampNeg)) v2.toInt64) →
    (vp_in (1 : Int32) 2 ∧
    (((lg_cmp (σ.2.1 29 ((1 : Int32).toNatClampNeg)) v2.toInt64) ≤ 0 →
      Q (some (.int (0 : Int32))) σ) ∧
     (¬ (lg_cmp (σ.2.1 29 ((1 : Int32).toNatClampNeg)) v2.toInt64) ≤ 0 →
      Q (some (.int (-2 : Int32))) σ))))))) :
  Wq 59 d 21 [none, some (.ref 29), some (.int v2)] [] σ Q := by
  exact fk_run_sound (B := B_Judge_limitsVerdict_v1) (C := C_Judge_limitsVerdict_v1) (n := 11) ok_Judge_limitsVerdict_v1 h
def B_Judge_globalsFit : fkB := [(0, [(.iconst 0, 1, []), (.istore_n 1, 1, [])]),
  (2, [(.iload_n 1, 1, []), (.aload_n 0, 1, []), (.getfield 9, 3, [3, 0, 561, 0]), (.getfield 85, 3, [6, 9, 416, 1]), (.if_icmp .ge 52, 3, [62])]),
  (13, [(.aload_n 0, 1, []), (.getfield 9, 3, [3, 0, 561, 0]), (.getfield 88, 3, [6, 10, 420, 1]), (.iconst 3, 1, []), (.iload_n 1, 1, []), (.imul, 1, []), (.iaload, 1, []), (.bipush 127, 2, []), (.if_icmp .ne 8, 3, [34])]),
  (29, [(.bipush 65, 2, []), (.goto 5, 3, [36])]),
  (34, [(.bipush 66, 2, [])]),
  (36, [(.istore_n 2, 1, []), (.aload_n 0, 1, []), (.getfield 9, 3, [3, 0, 561, 0]), (.getfield 88, 3, [6, 10, 420, 1]), (.iconst 3, 1, []), (.iload_n 1, 1, []), (.imul, 1, []), (.iconst 2, 1, []), (.iadd, 1, []), (.iaload, 1, []), (.iload_n 2, 1, []), (.if_icmp .eq 5, 3, [56])]),
  (54, [(.iconst 0, 1, []), (.ireturn, 1, [])]),
  (56, [(.iinc 1 1, 3, []), (.goto (-57), 3, [2])]),
  (62, [(.iconst 1, 1, []), (.ireturn, 1, [])])]
set_option maxRecDepth 100000 in
theorem ok_Judge_globalsFit : fk_okM 60 B_Judge_globalsFit = true := by decide +kernel
abbrev C_Judge_globalsFit : fkC := [(2, [true, true, false]), (36, [true, true, false])]
set_option maxRecDepth 100000 in
set_option maxHeartbeats 4000000 in
theorem S_Judge_globalsFit {d : Nat}  {σ : fkS} {Q : Option Value → fkS → Prop} 
  (h : Wq 60 d 2 [some (.ref 50), some (.int (0 : Int32)), none] [] σ Q) :
  Cl d 60 [.ref 50] σ Q := by
  exact Cl.run B_Judge_globalsFit C_Judge_globalsFit 12 fk_q60 ok_Judge_globalsFit rfl h
set_option maxRecDepth 100000 in
set_option maxHeartbeats 4000000 in
theorem S_Judge_globalsFit_2 {d : Nat} {v1 : Int32} {σ : fkS} {Q : Option Value → fkS → Prop} (h50_0 : σ.2.2 50 0 = 25)
  (h : (¬ (25 : Nat) = 0 ∧
  (((σ.1 24 9) ≤ v1 →
    Q (some (.int (1 : Int32))) σ) ∧
   (¬ (σ.1 24 9) ≤ v1 →
    (¬ (25 : Nat) = 0 ∧
    (vp_in ((3 : Int32) * v1) 180 ∧
    ((¬ (σ.1 30 (((3 : Int32) * v1).toNatClampNeg)) = (127 : Int32) →
      Wq 60 d 36 [some (.ref 50), some (.int v1), none] [.int (66 : Int32)] σ Q) ∧
     ((σ.1 30 (((3 : Int32) * v1).toNatClampNeg)) = (127 : Int32) →
      Wq 60 d 36 [some (.ref 50), some (.int v1), none] [.int (65 : Int32)] σ Q)))))))) :
  Wq 60 d 2 [some (.ref 50), some (.int v1), none] [] σ Q := by
  rw [← sR_eta h50_0] at h ⊢
  exact fk_run_sound (B := B_Judge_globalsFit) (C := C_Judge_globalsFit) (n := 12) ok_Judge_globalsFit h
set_option maxRecDepth 100000 in
set_option maxHeartbeats 4000000 in
theorem S_Judge_globalsFit_36 {d : Nat} {v1 : Int32} {s0 : Int32} {σ : fkS} {Q : Option Value → fkS → Prop} (h50_0 : σ.2.2 50 0 = 25)
  (h : (¬ (25 : Nat) = 0 ∧
  (vp_in (((3 : Int32) * v1) + (2 : Int32)) 180 ∧
  (((σ.1 30 ((((3 : Int32) * v1) + (2 : Int32)).toNatClampNeg)) = s0 →
    Wq 60 d 2 [some (.ref 50), some (.int (v1 + (1 : Int32))), none] [] σ Q) ∧
   (¬ (σ.1 30 ((((3 : Int32) * v1) + (2 : Int32)).toNatClampNeg)) = s0 →
    Q (some (.int (0 : Int32))) σ))))) :
  Wq 60 d 36 [some (.ref 50), some (.int v1), none] [.int s0] σ Q := by
  rw [← sR_eta h50_0] at h ⊢
  exact fk_run_sound (B := B_Judge_globalsFit) (C := C_Judge_globalsFit) (n := 12) ok_Judge_globalsFit h
def B_Judge_exportsFit : fkB := [(0, [(.iconst 0, 1, []), (.istore_n 1, 1, [])]),
  (2, [(.iload_n 1, 1, []), (.aload_n 0, 1, []), (.getfield 9, 3, [3, 0, 561, 0]), (.getfield 91, 3, [6, 12, 426, 1]), (.if_icmp .ge 64, 3, [74])]),
  (13, [(.aload_n 0, 1, []), (.getfield 9, 3, [3, 0, 561, 0]), (.iload_n 1, 1, []), (.invokevirtual 94, 3, [62, 1, 1146, 1, 4, 6]), (.istore_n 2, 1, []), (.iload_n 2, 1, []), (.ifCond .lt 19, 3, [42])]),
  (26, [(.iload_n 2, 1, []), (.aload_n 0, 1, []), (.aload_n 0, 1, []), (.getfield 9, 3, [3, 0, 561, 0]), (.iload_n 1, 1, []), (.invokevirtual 98, 3, [63, 1, 1150, 1, 4, 6]), (.invokevirtual 101, 3, [64, 1, 1154, 0, 4, 3]), (.if_icmp .lt 5, 3, [44])]),
  (42, [(.iconst 0, 1, []), (.ireturn, 1, [])]),
  (44, [(.iconst 0, 1, []), (.istore_n 3, 1, [])]),
  (46, [(.iload_n 3, 1, []), (.iload_n 1, 1, []), (.if_icmp .ge 20, 3, [68])]),
  (51, [(.aload_n 0, 1, []), (.iload_n 1, 1, []), (.iload_n 3, 1, []), (.invokevirtual 104, 3, [65, 2, 1158, 0, 4, 3]), (.ifCond .eq 5, 3, [62])]),
  (60, [(.iconst 0, 1, []), (.ireturn, 1, [])]),
  (62, [(.iinc 3 1, 3, []), (.goto (-19), 3, [46])]),
  (68, [(.iinc 1 1, 3, []), (.goto (-69), 3, [2])]),
  (74, [(.iconst 1, 1, []), (.ireturn, 1, [])])]
set_option maxRecDepth 100000 in
theorem ok_Judge_exportsFit : fk_okM 61 B_Judge_exportsFit = true := by decide +kernel
abbrev C_Judge_exportsFit : fkC := [(2, [true, true, false, false]), (46, [true, true, false, true])]
set_option maxRecDepth 100000 in
set_option maxHeartbeats 4000000 in
theorem S_Judge_exportsFit {d : Nat}  {σ : fkS} {Q : Option Value → fkS → Prop} 
  (h : Wq 61 (d + 1) 2 [some (.ref 50), some (.int (0 : Int32)), none, none] [] σ Q) :
  Cl (d + 1) 61 [.ref 50] σ Q := by
  exact Cl.run B_Judge_exportsFit C_Judge_exportsFit 15 fk_q61 ok_Judge_exportsFit rfl h
set_option maxRecDepth 100000 in
set_option maxHeartbeats 4000000 in
theorem S_Judge_exportsFit_2 {d : Nat} {v1 : Int32} {σ : fkS} {Q : Option Value → fkS → Prop} (h50_0 : σ.2.2 50 0 = 25)
  (h : (¬ (25 : Nat) = 0 ∧
  (((σ.1 24 12) ≤ v1 →
    Q (some (.int (1 : Int32))) σ) ∧
   (¬ (σ.1 24 12) ≤ v1 →
    (¬ (25 : Nat) = 0 ∧
    (Di d 62 [.ref 24, .int v1] σ (fun x2 σ1 =>
    ((x2 < 0 →
      Q (some (.int (0 : Int32))) (sW σ1 σ)) ∧
     (¬ x2 < 0 →
      (¬ (25 : Nat) = 0 ∧
      (Di d 63 [.ref 24, .int v1] (sW σ1 σ) (fun x4 σ3 =>
      (Di d 64 [.ref 50, .int x4] (sW σ3 σ) (fun x6 σ5 =>
      ((x2 < x6 →
        Wq 61 (d + 1) 46 [some (.ref 50), some (.int v1), none, some (.int (0 : Int32))] [] (sW σ5 σ) Q) ∧
       (¬ x2 < x6 →
        Q (some (.int (0 : Int32))) (sW σ5 σ))))))))))))))))) :
  Wq 61 (d + 1) 2 [some (.ref 50), some (.int v1), none, none] [] σ Q := by
  rw [← sR_eta h50_0] at h ⊢
  exact fk_run_sound (B := B_Judge_exportsFit) (C := C_Judge_exportsFit) (n := 15) ok_Judge_exportsFit h
set_option maxRecDepth 100000 in
set_option maxHeartbeats 4000000 in
theorem S_Judge_exportsFit_46 {d : Nat} {v1 : Int32} {v3 : Int32} {σ : fkS} {Q : Option Value → fkS → Prop} 
  (h : ((v1 ≤ v3 →
    Wq 61 (d + 1) 2 [some (.ref 50), some (.int (v1 + (1 : Int32))), none, none] [] σ Q) ∧
   (¬ v1 ≤ v3 →
    (Di d 65 [.ref 50, .int v1, .int v3] σ (fun x2 σ1 =>
    ((x2 = 0 →
      Wq 61 (d + 1) 46 [some (.ref 50), some (.int v1), none, some (.int (v3 + (1 : Int32)))] [] (sW σ1 σ) Q) ∧
     (¬ x2 = 0 →
      Q (some (.int (0 : Int32))) (sW σ1 σ)))))))) :
  Wq 61 (d + 1) 46 [some (.ref 50), some (.int v1), none, some (.int v3)] [] σ Q := by
  exact fk_run_sound (B := B_Judge_exportsFit) (C := C_Judge_exportsFit) (n := 15) ok_Judge_exportsFit h
def B_Judge_thingsOfKind : fkB := [(0, [(.iload_n 1, 1, []), (.tableswitch 51 0 2 #[27, 35, 43], 27, [52, 28, 36, 44])]),
  (28, [(.aload_n 0, 1, []), (.getfield 9, 3, [3, 0, 561, 0]), (.getfield 72, 3, [6, 3, 388, 1]), (.ireturn, 1, [])]),
  (36, [(.aload_n 0, 1, []), (.getfield 9, 3, [3, 0, 561, 0]), (.getfield 45, 3, [6, 5, 398, 1]), (.ireturn, 1, [])]),
  (44, [(.aload_n 0, 1, []), (.getfield 9, 3, [3, 0, 561, 0]), (.getfield 49, 3, [6, 7, 406, 1]), (.ireturn, 1, [])]),
  (52, [(.aload_n 0, 1, []), (.getfield 9, 3, [3, 0, 561, 0]), (.getfield 85, 3, [6, 9, 416, 1]), (.ireturn, 1, [])])]
set_option maxRecDepth 100000 in
theorem ok_Judge_thingsOfKind : fk_okM 64 B_Judge_thingsOfKind = true := by decide +kernel
abbrev C_Judge_thingsOfKind : fkC := []
set_option maxRecDepth 100000 in
set_option maxHeartbeats 4000000 in
theorem S_Judge_thingsOfKind {d : Nat} {a0 : Int32} {σ : fkS} {Q : Option Value → fkS → Prop} (h50_0 : σ.2.2 50 0 = 25)
  (h : (((a0.toInt < 0 ∨ 2 < a0.toInt) →
    (¬ (25 : Nat) = 0 ∧
    Q (some (.int (σ.1 24 9))) σ)) ∧
   (a0.toInt = 0 →
    (¬ (25 : Nat) = 0 ∧
    Q (some (.int (σ.1 24 3))) σ)) ∧
   (a0.toInt = 1 →
    (¬ (25 : Nat) = 0 ∧
    Q (some (.int (σ.1 24 5))) σ)) ∧
   (a0.toInt = 2 →
    (¬ (25 : Nat) = 0 ∧
    Q (some (.int (σ.1 24 7))) σ)) ∧ True)) :
  Cl d 64 [.ref 50, .int a0] σ Q := by
  rw [← sR_eta h50_0] at h ⊢
  exact Cl.run B_Judge_thingsOfKind C_Judge_thingsOfKind 8 fk_q64 ok_Judge_thingsOfKind rfl h
def B_Judge_sameName : fkB := [(0, [(.aload_n 0, 1, []), (.getfield 9, 3, [3, 0, 561, 0]), (.getfield 108, 3, [6, 13, 431, 1]), (.iconst 4, 1, []), (.iload_n 1, 1, []), (.imul, 1, []), (.iaload, 1, []), (.istore_n 3, 1, []), (.aload_n 0, 1, []), (.getfield 9, 3, [3, 0, 561, 0]), (.getfield 108, 3, [6, 13, 431, 1]), (.iconst 4, 1, []), (.iload_n 2, 1, []), (.imul, 1, []), (.iaload, 1, []), (.istore 4, 2, []), (.aload_n 0, 1, []), (.getfield 9, 3, [3, 0, 561, 0]), (.getfield 108, 3, [6, 13, 431, 1]), (.iconst 4, 1, []), (.iload_n 1, 1, []), (.imul, 1, []), (.iconst 1, 1, []), (.iadd, 1, []), (.iaload, 1, []), (.istore 5, 2, []), (.iload 5, 2, []), (.aload_n 0, 1, []), (.getfield 9, 3, [3, 0, 561, 0]), (.getfield 108, 3, [6, 13, 431, 1]), (.iconst 4, 1, []), (.iload_n 2, 1, []), (.imul, 1, []), (.iconst 1, 1, []), (.iadd, 1, []), (.iaload, 1, []), (.if_icmp .eq 5, 3, [60])]),
  (58, [(.iconst 0, 1, []), (.ireturn, 1, [])]),
  (60, [(.iconst 0, 1, []), (.istore 6, 2, [])]),
  (63, [(.iload 6, 2, []), (.iload 5, 2, []), (.if_icmp .ge 39, 3, [106])]),
  (70, [(.aload_n 0, 1, []), (.getfield 9, 3, [3, 0, 561, 0]), (.getfield 111, 3, [6, 0, 380, 1]), (.iload_n 3, 1, []), (.iload 6, 2, []), (.iadd, 1, []), (.baload, 1, []), (.aload_n 0, 1, []), (.getfield 9, 3, [3, 0, 561, 0]), (.getfield 111, 3, [6, 0, 380, 1]), (.iload 4, 2, []), (.iload 6, 2, []), (.iadd, 1, []), (.baload, 1, []), (.if_icmp .eq 5, 3, [100])]),
  (98, [(.iconst 0, 1, []), (.ireturn, 1, [])]),
  (100, [(.iinc 6 1, 3, []), (.goto (-40), 3, [63])]),
  (106, [(.iconst 1, 1, []), (.ireturn, 1, [])])]
set_option maxRecDepth 100000 in
theorem ok_Judge_sameName : fk_okM 65 B_Judge_sameName = true := by decide +kernel
abbrev C_Judge_sameName : fkC := [(63, [true, false, false, true, true, true, true])]
set_option maxRecDepth 100000 in
set_option maxHeartbeats 4000000 in
theorem S_Judge_sameName {d : Nat} {a0 : Int32} {a1 : Int32} {σ : fkS} {Q : Option Value → fkS → Prop} (h50_0 : σ.2.2 50 0 = 25)
  (h : (¬ (25 : Nat) = 0 ∧
  (vp_in ((4 : Int32) * a0) 240 ∧
  (¬ (25 : Nat) = 0 ∧
  (vp_in ((4 : Int32) * a1) 240 ∧
  (¬ (25 : Nat) = 0 ∧
  (vp_in (((4 : Int32) * a0) + (1 : Int32)) 240 ∧
  (¬ (25 : Nat) = 0 ∧
  (vp_in (((4 : Int32) * a1) + (1 : Int32)) 240 ∧
  (((σ.1 32 ((((4 : Int32) * a0) + (1 : Int32)).toNatClampNeg)) = (σ.1 32 ((((4 : Int32) * a1) + (1 : Int32)).toNatClampNeg)) →
    Wq 65 d 63 [some (.ref 50), none, none, some (.int (σ.1 32 (((4 : Int32) * a0).toNatClampNeg))), some (.int (σ.1 32 (((4 : Int32) * a1).toNatClampNeg))), some (.int (σ.1 32 ((((4 : Int32) * a0) + (1 : Int32)).toNatClampNeg))), some (.int (0 : Int32))] [] σ Q) ∧
   (¬ (σ.1 32 ((((4 : Int32) * a0) + (1 : Int32)).toNatClampNeg)) = (σ.1 32 ((((4 : Int32) * a1) + (1 : Int32)).toNatClampNeg)) →
    Q (some (.int (0 : Int32))) σ))))))))))) :
  Cl d 65 [.ref 50, .int a0, .int a1] σ Q := by
  rw [← sR_eta h50_0] at h ⊢
  exact Cl.run B_Judge_sameName C_Judge_sameName 11 fk_q65 ok_Judge_sameName rfl h
set_option maxRecDepth 100000 in
set_option maxHeartbeats 4000000 in
theorem S_Judge_sameName_63 {d : Nat} {v3 : Int32} {v4 : Int32} {v5 : Int32} {v6 : Int32} {σ : fkS} {Q : Option Value → fkS → Prop} (h50_0 : σ.2.2 50 0 = 25)
  (h : ((v5 ≤ v6 →
    Q (some (.int (1 : Int32))) σ) ∧
   (¬ v5 ≤ v6 →
    (¬ (25 : Nat) = 0 ∧
    (vp_in (v3 + v6) 4000 ∧
    (¬ (25 : Nat) = 0 ∧
    (vp_in (v4 + v6) 4000 ∧
    (((σ.1 25 ((v3 + v6).toNatClampNeg)) = (σ.1 25 ((v4 + v6).toNatClampNeg)) →
      Wq 65 d 63 [some (.ref 50), none, none, some (.int v3), some (.int v4), some (.int v5), some (.int (v6 + (1 : Int32)))] [] σ Q) ∧
     (¬ (σ.1 25 ((v3 + v6).toNatClampNeg)) = (σ.1 25 ((v4 + v6).toNatClampNeg)) →
      Q (some (.int (0 : Int32))) σ))))))))) :
  Wq 65 d 63 [some (.ref 50), none, none, some (.int v3), some (.int v4), some (.int v5), some (.int v6)] [] σ Q := by
  rw [← sR_eta h50_0] at h ⊢
  exact fk_run_sound (B := B_Judge_sameName) (C := C_Judge_sameName) (n := 11) ok_Judge_sameName h
def B_Judge_elementsFit : fkB := [(0, [(.iconst 0, 1, []), (.istore_n 1, 1, [])]),
  (2, [(.iload_n 1, 1, []), (.aload_n 0, 1, []), (.getfield 9, 3, [3, 0, 561, 0]), (.getfield 115, 3, [6, 14, 435, 1]), (.if_icmp .ge 37, 3, [47])]),
  (13, [(.aload_n 0, 1, []), (.getfield 9, 3, [3, 0, 561, 0]), (.getfield 45, 3, [6, 5, 398, 1]), (.ifCond .eq 19, 3, [39])]),
  (23, [(.aload_n 0, 1, []), (.getfield 9, 3, [3, 0, 561, 0]), (.getfield 118, 3, [6, 15, 439, 1]), (.iconst 3, 1, []), (.iload_n 1, 1, []), (.imul, 1, []), (.iaload, 1, []), (.bipush 65, 2, []), (.if_icmp .eq 5, 3, [41])]),
  (39, [(.iconst 0, 1, []), (.ireturn, 1, [])]),
  (41, [(.iinc 1 1, 3, []), (.goto (-42), 3, [2])]),
  (47, [(.iconst 0, 1, []), (.istore_n 1, 1, [])]),
  (49, [(.iload_n 1, 1, []), (.aload_n 0, 1, []), (.getfield 9, 3, [3, 0, 561, 0]), (.getfield 121, 3, [6, 17, 445, 1]), (.if_icmp .ge 42, 3, [99])]),
  (60, [(.aload_n 0, 1, []), (.getfield 9, 3, [3, 0, 561, 0]), (.getfield 124, 3, [6, 18, 449, 1]), (.iload_n 1, 1, []), (.iaload, 1, []), (.ifCond .lt 22, 3, [91])]),
  (72, [(.aload_n 0, 1, []), (.getfield 9, 3, [3, 0, 561, 0]), (.getfield 124, 3, [6, 18, 449, 1]), (.iload_n 1, 1, []), (.iaload, 1, []), (.aload_n 0, 1, []), (.getfield 9, 3, [3, 0, 561, 0]), (.getfield 72, 3, [6, 3, 388, 1]), (.if_icmp .lt 5, 3, [93])]),
  (91, [(.iconst 0, 1, []), (.ireturn, 1, [])]),
  (93, [(.iinc 1 1, 3, []), (.goto (-47), 3, [49])]),
  (99, [(.iconst 1, 1, []), (.ireturn, 1, [])])]
set_option maxRecDepth 100000 in
theorem ok_Judge_elementsFit : fk_okM 66 B_Judge_elementsFit = true := by decide +kernel
abbrev C_Judge_elementsFit : fkC := [(2, [true, true]), (49, [true, true])]
set_option maxRecDepth 100000 in
set_option maxHeartbeats 4000000 in
theorem S_Judge_elementsFit {d : Nat}  {σ : fkS} {Q : Option Value → fkS → Prop} 
  (h : Wq 66 d 2 [some (.ref 50), some (.int (0 : Int32))] [] σ Q) :
  Cl d 66 [.ref 50] σ Q := by
  exact Cl.run B_Judge_elementsFit C_Judge_elementsFit 16 fk_q66 ok_Judge_elementsFit rfl h
set_option maxRecDepth 100000 in
set_option maxHeartbeats 4000000 in
theorem S_Judge_elementsFit_2 {d : Nat} {v1 : Int32} {σ : fkS} {Q : Option Value → fkS → Prop} (h50_0 : σ.2.2 50 0 = 25)
  (h : (¬ (25 : Nat) = 0 ∧
  (((σ.1 24 14) ≤ v1 →
    Wq 66 d 49 [some (.ref 50), some (.int (0 : Int32))] [] σ Q) ∧
   (¬ (σ.1 24 14) ≤ v1 →
    (¬ (25 : Nat) = 0 ∧
    (((σ.1 24 5) = 0 →
      Q (some (.int (0 : Int32))) σ) ∧
     (¬ (σ.1 24 5) = 0 →
      (¬ (25 : Nat) = 0 ∧
      (vp_in ((3 : Int32) * v1) 180 ∧
      (((σ.1 33 (((3 : Int32) * v1).toNatClampNeg)) = (65 : Int32) →
        Wq 66 d 2 [some (.ref 50), some (.int (v1 + (1 : Int32)))] [] σ Q) ∧
       (¬ (σ.1 33 (((3 : Int32) * v1).toNatClampNeg)) = (65 : Int32) →
        Q (some (.int (0 : Int32))) σ))))))))))) :
  Wq 66 d 2 [some (.ref 50), some (.int v1)] [] σ Q := by
  rw [← sR_eta h50_0] at h ⊢
  exact fk_run_sound (B := B_Judge_elementsFit) (C := C_Judge_elementsFit) (n := 16) ok_Judge_elementsFit h
set_option maxRecDepth 100000 in
set_option maxHeartbeats 4000000 in
theorem S_Judge_elementsFit_49 {d : Nat} {v1 : Int32} {σ : fkS} {Q : Option Value → fkS → Prop} (h50_0 : σ.2.2 50 0 = 25)
  (h : (¬ (25 : Nat) = 0 ∧
  (((σ.1 24 17) ≤ v1 →
    Q (some (.int (1 : Int32))) σ) ∧
   (¬ (σ.1 24 17) ≤ v1 →
    (¬ (25 : Nat) = 0 ∧
    (vp_in v1 4000 ∧
    (((σ.1 35 v1.toNatClampNeg) < 0 →
      Q (some (.int (0 : Int32))) σ) ∧
     (¬ (σ.1 35 v1.toNatClampNeg) < 0 →
      (¬ (25 : Nat) = 0 ∧
      (vp_in v1 4000 ∧
      (¬ (25 : Nat) = 0 ∧
      (((σ.1 35 v1.toNatClampNeg) < (σ.1 24 3) →
        Wq 66 d 49 [some (.ref 50), some (.int (v1 + (1 : Int32)))] [] σ Q) ∧
       (¬ (σ.1 35 v1.toNatClampNeg) < (σ.1 24 3) →
        Q (some (.int (0 : Int32))) σ))))))))))))) :
  Wq 66 d 49 [some (.ref 50), some (.int v1)] [] σ Q := by
  rw [← sR_eta h50_0] at h ⊢
  exact fk_run_sound (B := B_Judge_elementsFit) (C := C_Judge_elementsFit) (n := 16) ok_Judge_elementsFit h
def B_Judge_functionFits : fkB := [(0, [(.aload_n 0, 1, []), (.iload_n 1, 1, []), (.putfield 127, 3, [3, 2, 563, 0]), (.aload_n 0, 1, []), (.iconst 1, 1, []), (.putfield 130, 3, [3, 3, 564, 0]), (.aload_n 0, 1, []), (.iconst 0, 1, []), (.putfield 134, 3, [3, 5, 566, 0]), (.aload_n 0, 1, []), (.iconst 0, 1, []), (.putfield 137, 3, [3, 10, 571, 0]), (.aload_n 0, 1, []), (.iconst (-1), 1, []), (.aload_n 0, 1, []), (.getfield 9, 3, [3, 0, 561, 0]), (.aload_n 0, 1, []), (.getfield 9, 3, [3, 0, 561, 0]), (.getfield 79, 3, [6, 4, 392, 1]), (.iload_n 1, 1, []), (.iaload, 1, []), (.invokevirtual 140, 3, [68, 1, 1170, 1, 4, 6]), (.invokevirtual 143, 3, [69, 2, 1174, 0, 3, 3]), (.aload_n 0, 1, []), (.getfield 15, 3, [3, 1, 562, 0]), (.getfield 147, 3, [2, 1, 316, 1]), (.iload_n 1, 1, []), (.iaload, 1, []), (.istore_n 2, 1, [])]),
  (51, [(.iload_n 2, 1, []), (.aload_n 0, 1, []), (.getfield 15, 3, [3, 1, 562, 0]), (.getfield 152, 3, [2, 2, 320, 1]), (.iload_n 1, 1, []), (.iaload, 1, []), (.if_icmp .gt 30, 3, [91])]),
  (64, [(.aload_n 0, 1, []), (.getfield 130, 3, [3, 3, 564, 0]), (.ifCond .eq 23, 3, [91])]),
  (71, [(.aload_n 0, 1, []), (.iload_n 2, 1, []), (.aload_n 0, 1, []), (.getfield 15, 3, [3, 1, 562, 0]), (.getfield 155, 3, [2, 6, 336, 1]), (.iload_n 2, 1, []), (.iaload, 1, []), (.invokevirtual 158, 3, [70, 2, 1178, 0, 3, 3]), (.iinc 2 1, 3, []), (.goto (-37), 3, [51])]),
  (91, [(.aload_n 0, 1, []), (.getfield 130, 3, [3, 3, 564, 0]), (.ireturn, 1, [])])]
set_option maxRecDepth 100000 in
theorem ok_Judge_functionFits : fk_okM 67 B_Judge_functionFits = true := by decide +kernel
abbrev C_Judge_functionFits : fkC := [(51, [true, true, true])]
set_option maxRecDepth 100000 in
set_option maxHeartbeats 4000000 in
theorem S_Judge_functionFits {d : Nat} {a0 : Int32} {σ : fkS} {Q : Option Value → fkS → Prop} (h50_0 : σ.2.2 50 0 = 25) (h50_1 : σ.2.2 50 1 = 37)
  (h : (¬ (25 : Nat) = 0 ∧
  (¬ (25 : Nat) = 0 ∧
  (vp_in a0 60 ∧
  (Di d 68 [.ref 24, .int (σ.1 27 a0.toNatClampNeg)] (sI (sI (sI (sI σ 50 2 a0) 50 3 (1 : Int32)) 50 5 (0 : Int32)) 50 10 (0 : Int32)) (fun x2 σ1 =>
  (Dv d 69 [.ref 50, .int (-1 : Int32), .int x2] (sW σ1 σ) (fun σ3 =>
  (¬ (37 : Nat) = 0 ∧
  (vp_in a0 60 ∧
  Wq 67 (d + 1) 51 [some (.ref 50), some (.int a0), some (.int ((sW σ3 σ).1 37 a0.toNatClampNeg))] [] (sW σ3 σ) Q)))))))))) :
  Cl (d + 1) 67 [.ref 50, .int a0] σ Q := by
  rw [← sR_eta h50_0] at h ⊢
  rw [← sR_eta h50_1] at h ⊢
  exact Cl.run B_Judge_functionFits C_Judge_functionFits 8 fk_q67 ok_Judge_functionFits rfl h
set_option maxRecDepth 100000 in
set_option maxHeartbeats 4000000 in
theorem S_Judge_functionFits_51 {d : Nat} {v1 : Int32} {v2 : Int32} {σ : fkS} {Q : Option Value → fkS → Prop} (h50_1 : σ.2.2 50 1 = 37)
  (h : (¬ (37 : Nat) = 0 ∧
  (vp_in v1 60 ∧
  (((σ.1 38 v1.toNatClampNeg) < v2 →
    fk_bz (σ.1 50 3) (Q (some (.int (σ.1 50 3))) σ)) ∧
   (¬ (σ.1 38 v1.toNatClampNeg) < v2 →
    (((σ.1 50 3) = 0 →
      fk_bz (σ.1 50 3) (Q (some (.int (σ.1 50 3))) σ)) ∧
     (¬ (σ.1 50 3) = 0 →
      (¬ (37 : Nat) = 0 ∧
      (vp_in v2 4000 ∧
      (Dv d 70 [.ref 50, .int v2, .int (σ.1 41 v2.toNatClampNeg)] σ (fun σ1 =>
      Wq 67 (d + 1) 51 [some (.ref 50), some (.int v1), some (.int (v2 + (1 : Int32)))] [] (sW σ1 σ) Q))))))))))) :
  Wq 67 (d + 1) 51 [some (.ref 50), some (.int v1), some (.int v2)] [] σ Q := by
  rw [← sR_eta h50_1] at h ⊢
  exact fk_run_sound (B := B_Judge_functionFits) (C := C_Judge_functionFits) (n := 8) ok_Judge_functionFits h
def B_Judge_openBlock : fkB := [(0, [(.aload_n 0, 1, []), (.getfield 137, 3, [3, 10, 571, 0]), (.bipush 22, 2, []), (.if_icmp .ge 56, 3, [62])]),
  (9, [(.aload_n 0, 1, []), (.getfield 23, 3, [3, 6, 567, 0]), (.aload_n 0, 1, []), (.getfield 137, 3, [3, 10, 571, 0]), (.iload_n 1, 1, []), (.iastore, 1, []), (.aload_n 0, 1, []), (.getfield 26, 3, [3, 7, 568, 0]), (.aload_n 0, 1, []), (.getfield 137, 3, [3, 10, 571, 0]), (.aload_n 0, 1, []), (.getfield 134, 3, [3, 5, 566, 0]), (.iastore, 1, []), (.aload_n 0, 1, []), (.getfield 29, 3, [3, 8, 569, 0]), (.aload_n 0, 1, []), (.getfield 137, 3, [3, 10, 571, 0]), (.iload_n 2, 1, []), (.iastore, 1, []), (.aload_n 0, 1, []), (.getfield 32, 3, [3, 9, 570, 0]), (.aload_n 0, 1, []), (.getfield 137, 3, [3, 10, 571, 0]), (.iconst 0, 1, []), (.bastore, 1, []), (.aload_n 0, 1, []), (.dup, 1, []), (.getfield 137, 3, [3, 10, 571, 0]), (.iconst 1, 1, []), (.iadd, 1, []), (.putfield 137, 3, [3, 10, 571, 0])]),
  (62, [(.return_, 1, [])])]
set_option maxRecDepth 100000 in
theorem ok_Judge_openBlock : fk_okM 69 B_Judge_openBlock = true := by decide +kernel
abbrev C_Judge_openBlock : fkC := []
set_option maxRecDepth 100000 in
set_option maxHeartbeats 4000000 in
theorem S_Judge_openBlock {d : Nat} {a0 : Int32} {a1 : Int32} {σ : fkS} {Q : Option Value → fkS → Prop} 
  (h : (((22 : Int32) ≤ (σ.1 50 10) →
    Q none σ) ∧
   (¬ (22 : Int32) ≤ (σ.1 50 10) →
    (vp_in (σ.1 50 10) 22 ∧
    (vp_in (σ.1 50 10) 22 ∧
    (vp_in (σ.1 50 10) 22 ∧
    (vp_in (σ.1 50 10) 22 ∧
    Q none (sI (sI (sI (sI (sI σ 52 ((σ.1 50 10).toNatClampNeg) a0) 53 ((σ.1 50 10).toNatClampNeg) (σ.1 50 5)) 54 ((σ.1 50 10).toNatClampNeg) a1) 55 ((σ.1 50 10).toNatClampNeg) (0 : Int32)) 50 10 ((σ.1 50 10) + (1 : Int32)))))))))) :
  Cl d 69 [.ref 50, .int a0, .int a1] σ Q := by
  exact Cl.run B_Judge_openBlock C_Judge_openBlock 6 fk_q69 ok_Judge_openBlock rfl h
def B_Judge_instruction : fkB := [(0, [(.iload_n 2, 1, []), (.bipush 11, 2, []), (.if_icmp .gt 12, 3, [15])]),
  (6, [(.aload_n 0, 1, []), (.iload_n 1, 1, []), (.iload_n 2, 1, []), (.invokevirtual 168, 3, [71, 2, 1182, 0, 3, 3]), (.goto 141, 3, [153])]),
  (15, [(.iload_n 2, 1, []), (.bipush 15, 2, []), (.if_icmp .gt 12, 3, [30])]),
  (21, [(.aload_n 0, 1, []), (.iload_n 1, 1, []), (.iload_n 2, 1, []), (.invokevirtual 171, 3, [77, 2, 1206, 0, 3, 3]), (.goto 126, 3, [153])]),
  (30, [(.iload_n 2, 1, []), (.bipush 17, 2, []), (.if_icmp .gt 12, 3, [45])]),
  (36, [(.aload_n 0, 1, []), (.iload_n 1, 1, []), (.iload_n 2, 1, []), (.invokevirtual 174, 3, [85, 2, 1238, 0, 3, 3]), (.goto 111, 3, [153])]),
  (45, [(.iload_n 2, 1, []), (.bipush 27, 2, []), (.if_icmp .gt 11, 3, [59])]),
  (51, [(.aload_n 0, 1, []), (.iload_n 2, 1, []), (.invokevirtual 177, 3, [88, 1, 1250, 0, 3, 3]), (.goto 97, 3, [153])]),
  (59, [(.iload_n 2, 1, []), (.bipush 34, 2, []), (.if_icmp .gt 21, 3, [83])]),
  (65, [(.aload_n 0, 1, []), (.aload_n 0, 1, []), (.getfield 15, 3, [3, 1, 562, 0]), (.getfield 180, 3, [2, 7, 340, 1]), (.iload_n 1, 1, []), (.laload, 1, []), (.l2i, 1, []), (.iload_n 2, 1, []), (.invokevirtual 183, 3, [89, 2, 1254, 0, 3, 3]), (.goto 73, 3, [153])]),
  (83, [(.iload_n 2, 1, []), (.bipush 36, 2, []), (.if_icmp .gt 21, 3, [107])]),
  (89, [(.aload_n 0, 1, []), (.aload_n 0, 1, []), (.getfield 15, 3, [3, 1, 562, 0]), (.getfield 180, 3, [2, 7, 340, 1]), (.iload_n 1, 1, []), (.laload, 1, []), (.l2i, 1, []), (.iload_n 2, 1, []), (.invokevirtual 186, 3, [90, 2, 1258, 0, 3, 3]), (.goto 49, 3, [153])]),
  (107, [(.iload_n 2, 1, []), (.bipush 64, 2, []), (.if_icmp .gt 12, 3, [122])]),
  (113, [(.aload_n 0, 1, []), (.iload_n 1, 1, []), (.iload_n 2, 1, []), (.invokevirtual 189, 3, [91, 2, 1262, 0, 3, 3]), (.goto 34, 3, [153])]),
  (122, [(.iload_n 2, 1, []), (.bipush 66, 2, []), (.if_icmp .gt 23, 3, [148])]),
  (128, [(.aload_n 0, 1, []), (.iload_n 2, 1, []), (.bipush 65, 2, []), (.if_icmp .ne 8, 3, [140])]),
  (135, [(.bipush 127, 2, []), (.goto 5, 3, [142])]),
  (140, [(.bipush 126, 2, [])]),
  (142, [(.invokevirtual 164, 3, [76, 1, 1202, 0, 3, 3]), (.goto 8, 3, [153])]),
  (148, [(.aload_n 0, 1, []), (.iload_n 2, 1, []), (.invokevirtual 192, 3, [94, 1, 1272, 0, 3, 3])]),
  (153, [(.return_, 1, [])])]
set_option maxRecDepth 100000 in
theorem ok_Judge_instruction : fk_okM 70 B_Judge_instruction = true := by decide +kernel
abbrev C_Judge_instruction : fkC := []
set_option maxRecDepth 100000 in
set_option maxHeartbeats 4000000 in
theorem S_Judge_instruction {d : Nat} {a0 : Int32} {a1 : Int32} {σ : fkS} {Q : Option Value → fkS → Prop} (h50_1 : σ.2.2 50 1 = 37)
  (h : (((11 : Int32) < a1 →
    (((15 : Int32) < a1 →
      (((17 : Int32) < a1 →
        (((27 : Int32) < a1 →
          (((34 : Int32) < a1 →
            (((36 : Int32) < a1 →
              (((64 : Int32) < a1 →
                (((66 : Int32) < a1 →
                  (Dv d 94 [.ref 50, .int a1] σ (fun σ1 =>
                  Q none (sW σ1 σ)))) ∧
                 (¬ (66 : Int32) < a1 →
                  ((¬ a1 = (65 : Int32) →
                    (Dv d 76 [.ref 50, .int (126 : Int32)] σ (fun σ2 =>
                    Q none (sW σ2 σ)))) ∧
                   (a1 = (65 : Int32) →
                    (Dv d 76 [.ref 50, .int (127 : Int32)] σ (fun σ3 =>
                    Q none (sW σ3 σ)))))))) ∧
               (¬ (64 : Int32) < a1 →
                (Dv d 91 [.ref 50, .int a0, .int a1] σ (fun σ4 =>
                Q none (sW σ4 σ)))))) ∧
             (¬ (36 : Int32) < a1 →
              (¬ (37 : Nat) = 0 ∧
              (vp_in a0 4000 ∧
              (Dv d 90 [.ref 50, .int ((σ.2.1 42 a0.toNatClampNeg).toInt32), .int a1] σ (fun σ5 =>
              Q none (sW σ5 σ)))))))) ∧
           (¬ (34 : Int32) < a1 →
            (¬ (37 : Nat) = 0 ∧
            (vp_in a0 4000 ∧
            (Dv d 89 [.ref 50, .int ((σ.2.1 42 a0.toNatClampNeg).toInt32), .int a1] σ (fun σ6 =>
            Q none (sW σ6 σ)))))))) ∧
         (¬ (27 : Int32) < a1 →
          (Dv d 88 [.ref 50, .int a1] σ (fun σ7 =>
          Q none (sW σ7 σ)))))) ∧
       (¬ (17 : Int32) < a1 →
        (Dv d 85 [.ref 50, .int a0, .int a1] σ (fun σ8 =>
        Q none (sW σ8 σ)))))) ∧
     (¬ (15 : Int32) < a1 →
      (Dv d 77 [.ref 50, .int a0, .int a1] σ (fun σ9 =>
      Q none (sW σ9 σ)))))) ∧
   (¬ (11 : Int32) < a1 →
    (Dv d 71 [.ref 50, .int a0, .int a1] σ (fun σ10 =>
    Q none (sW σ10 σ)))))) :
  Cl (d + 1) 70 [.ref 50, .int a0, .int a1] σ Q := by
  rw [← sR_eta h50_1] at h ⊢
  exact Cl.run B_Judge_instruction C_Judge_instruction 24 fk_q70 ok_Judge_instruction rfl h
def B_Judge_structure : fkB := [(0, [(.iload_n 2, 1, []), (.tableswitch 131 0 11 #[63, 70, 131, 131, 73, 98, 131, 131, 131, 131, 131, 124], 63, [132, 64, 71, 132, 132, 74, 99, 132, 132, 132, 132, 132, 125])]),
  (64, [(.aload_n 0, 1, []), (.invokevirtual 195, 3, [72, 0, 1186, 0, 3, 3]), (.goto 79, 3, [147])]),
  (71, [(.goto 76, 3, [147])]),
  (74, [(.aload_n 0, 1, []), (.bipush 127, 2, []), (.invokevirtual 161, 3, [73, 1, 1190, 0, 4, 3]), (.pop, 1, []), (.aload_n 0, 1, []), (.iload_n 1, 1, []), (.aload_n 0, 1, []), (.getfield 15, 3, [3, 1, 562, 0]), (.getfield 180, 3, [2, 7, 340, 1]), (.iload_n 1, 1, []), (.laload, 1, []), (.l2i, 1, []), (.invokevirtual 143, 3, [69, 2, 1174, 0, 3, 3]), (.goto 51, 3, [147])]),
  (99, [(.aload_n 0, 1, []), (.invokevirtual 198, 3, [74, 0, 1194, 0, 3, 3]), (.aload_n 0, 1, []), (.getfield 137, 3, [3, 10, 571, 0]), (.ifCond .le 40, 3, [147])]),
  (110, [(.aload_n 0, 1, []), (.getfield 32, 3, [3, 9, 570, 0]), (.aload_n 0, 1, []), (.getfield 137, 3, [3, 10, 571, 0]), (.iconst 1, 1, []), (.isub, 1, []), (.iconst 0, 1, []), (.bastore, 1, []), (.goto 25, 3, [147])]),
  (125, [(.aload_n 0, 1, []), (.invokevirtual 201, 3, [75, 0, 1198, 0, 3, 3]), (.goto 18, 3, [147])]),
  (132, [(.aload_n 0, 1, []), (.iload_n 1, 1, []), (.aload_n 0, 1, []), (.getfield 15, 3, [3, 1, 562, 0]), (.getfield 180, 3, [2, 7, 340, 1]), (.iload_n 1, 1, []), (.laload, 1, []), (.l2i, 1, []), (.invokevirtual 143, 3, [69, 2, 1174, 0, 3, 3])]),
  (147, [(.return_, 1, [])])]
set_option maxRecDepth 100000 in
theorem ok_Judge_structure : fk_okM 71 B_Judge_structure = true := by decide +kernel
abbrev C_Judge_structure : fkC := []
set_option maxRecDepth 100000 in
set_option maxHeartbeats 4000000 in
theorem S_Judge_structure {d : Nat} {a0 : Int32} {a1 : Int32} {σ : fkS} {Q : Option Value → fkS → Prop} (h50_1 : σ.2.2 50 1 = 37)
  (h : (((a1.toInt < 0 ∨ 11 < a1.toInt) →
    (¬ (37 : Nat) = 0 ∧
    (vp_in a0 4000 ∧
    (Dv d 69 [.ref 50, .int a0, .int ((σ.2.1 42 a0.toNatClampNeg).toInt32)] σ (fun σ1 =>
    Q none (sW σ1 σ)))))) ∧
   (a1.toInt = 0 →
    (Dv d 72 [.ref 50] σ (fun σ2 =>
    Q none (sW σ2 σ)))) ∧
   (a1.toInt = 1 →
    Q none σ) ∧
   (a1.toInt = 2 →
    (¬ (37 : Nat) = 0 ∧
    (vp_in a0 4000 ∧
    (Dv d 69 [.ref 50, .int a0, .int ((σ.2.1 42 a0.toNatClampNeg).toInt32)] σ (fun σ3 =>
    Q none (sW σ3 σ)))))) ∧
   (a1.toInt = 3 →
    (¬ (37 : Nat) = 0 ∧
    (vp_in a0 4000 ∧
    (Dv d 69 [.ref 50, .int a0, .int ((σ.2.1 42 a0.toNatClampNeg).toInt32)] σ (fun σ4 =>
    Q none (sW σ4 σ)))))) ∧
   (a1.toInt = 4 →
    (Di d 73 [.ref 50, .int (127 : Int32)] σ (fun x6 σ5 =>
    (¬ (37 : Nat) = 0 ∧
    (vp_in a0 4000 ∧
    (Dv d 69 [.ref 50, .int a0, .int (((sW σ5 σ).2.1 42 a0.toNatClampNeg).toInt32)] (sW σ5 σ) (fun σ7 =>
    Q none (sW σ7 σ)))))))) ∧
   (a1.toInt = 5 →
    (Dv d 74 [.ref 50] σ (fun σ8 =>
    ((((sW σ8 σ).1 50 10) ≤ 0 →
      Q none (sW σ8 σ)) ∧
     (¬ ((sW σ8 σ).1 50 10) ≤ 0 →
      (vp_in (((sW σ8 σ).1 50 10) - (1 : Int32)) 22 ∧
      Q none (sI (sW σ8 σ) 55 ((((sW σ8 σ).1 50 10) - (1 : Int32)).toNatClampNeg) (0 : Int32)))))))) ∧
   (a1.toInt = 6 →
    (¬ (37 : Nat) = 0 ∧
    (vp_in a0 4000 ∧
    (Dv d 69 [.ref 50, .int a0, .int ((σ.2.1 42 a0.toNatClampNeg).toInt32)] σ (fun σ9 =>
    Q none (sW σ9 σ)))))) ∧
   (a1.toInt = 7 →
    (¬ (37 : Nat) = 0 ∧
    (vp_in a0 4000 ∧
    (Dv d 69 [.ref 50, .int a0, .int ((σ.2.1 42 a0.toNatClampNeg).toInt32)] σ (fun σ10 =>
    Q none (sW σ10 σ)))))) ∧
   (a1.toInt = 8 →
    (¬ (37 : Nat) = 0 ∧
    (vp_in a0 4000 ∧
    (Dv d 69 [.ref 50, .int a0, .int ((σ.2.1 42 a0.toNatClampNeg).toInt32)] σ (fun σ11 =>
    Q none (sW σ11 σ)))))) ∧
   (a1.toInt = 9 →
    (¬ (37 : Nat) = 0 ∧
    (vp_in a0 4000 ∧
    (Dv d 69 [.ref 50, .int a0, .int ((σ.2.1 42 a0.toNatClampNeg).toInt32)] σ (fun σ12 =>
    Q none (sW σ12 σ)))))) ∧
   (a1.toInt = 10 →
    (¬ (37 : Nat) = 0 ∧
    (vp_in a0 4000 ∧
    (Dv d 69 [.ref 50, .int a0, .int ((σ.2.1 42 a0.toNatClampNeg).toInt32)] σ (fun σ13 =>
    Q none (sW σ13 σ)))))) ∧
   (a1.toInt = 11 →
    (Dv d 75 [.ref 50] σ (fun σ14 =>
    Q none (sW σ14 σ)))) ∧ True)) :
  Cl (d + 1) 71 [.ref 50, .int a0, .int a1] σ Q := by
  rw [← sR_eta h50_1] at h ⊢
  exact Cl.run B_Judge_structure C_Judge_structure 12 fk_q71 ok_Judge_structure rfl h
def B_Judge_goDead : fkB := [(0, [(.aload_n 0, 1, []), (.getfield 137, 3, [3, 10, 571, 0]), (.ifCond .le 30, 3, [34])]),
  (7, [(.aload_n 0, 1, []), (.aload_n 0, 1, []), (.getfield 26, 3, [3, 7, 568, 0]), (.aload_n 0, 1, []), (.getfield 137, 3, [3, 10, 571, 0]), (.iconst 1, 1, []), (.isub, 1, []), (.iaload, 1, []), (.putfield 134, 3, [3, 5, 566, 0]), (.aload_n 0, 1, []), (.getfield 32, 3, [3, 9, 570, 0]), (.aload_n 0, 1, []), (.getfield 137, 3, [3, 10, 571, 0]), (.iconst 1, 1, []), (.isub, 1, []), (.iconst 1, 1, []), (.bastore, 1, [])]),
  (34, [(.return_, 1, [])])]
set_option maxRecDepth 100000 in
theorem ok_Judge_goDead : fk_okM 72 B_Judge_goDead = true := by decide +kernel
abbrev C_Judge_goDead : fkC := []
set_option maxRecDepth 100000 in
set_option maxHeartbeats 4000000 in
theorem S_Judge_goDead {d : Nat}  {σ : fkS} {Q : Option Value → fkS → Prop} 
  (h : (((σ.1 50 10) ≤ 0 →
    Q none σ) ∧
   (¬ (σ.1 50 10) ≤ 0 →
    (vp_in ((σ.1 50 10) - (1 : Int32)) 22 ∧
    (vp_in ((σ.1 50 10) - (1 : Int32)) 22 ∧
    Q none (sI (sI σ 50 5 (σ.1 53 (((σ.1 50 10) - (1 : Int32)).toNatClampNeg))) 55 (((σ.1 50 10) - (1 : Int32)).toNatClampNeg) (1 : Int32))))))) :
  Cl d 72 [.ref 50] σ Q := by
  exact Cl.run B_Judge_goDead C_Judge_goDead 6 fk_q72 ok_Judge_goDead rfl h
def B_Judge_pop : fkB := [(0, [(.aload_n 0, 1, []), (.getfield 137, 3, [3, 10, 571, 0]), (.iconst 1, 1, []), (.isub, 1, []), (.istore_n 2, 1, []), (.iload_n 2, 1, []), (.ifCond .lt 16, 3, [24])]),
  (11, [(.aload_n 0, 1, []), (.getfield 134, 3, [3, 5, 566, 0]), (.aload_n 0, 1, []), (.getfield 26, 3, [3, 7, 568, 0]), (.iload_n 2, 1, []), (.iaload, 1, []), (.if_icmp .gt 34, 3, [55])]),
  (24, [(.aload_n 0, 1, []), (.aload_n 0, 1, []), (.getfield 130, 3, [3, 3, 564, 0]), (.ifCond .eq 20, 3, [49])]),
  (32, [(.iload_n 2, 1, []), (.ifCond .lt 16, 3, [49])]),
  (36, [(.aload_n 0, 1, []), (.getfield 32, 3, [3, 9, 570, 0]), (.iload_n 2, 1, []), (.baload, 1, []), (.ifCond .eq 7, 3, [49])]),
  (45, [(.iconst 1, 1, []), (.goto 4, 3, [50])]),
  (49, [(.iconst 0, 1, [])]),
  (50, [(.putfield 130, 3, [3, 3, 564, 0]), (.iload_n 1, 1, []), (.ireturn, 1, [])]),
  (55, [(.aload_n 0, 1, []), (.dup, 1, []), (.getfield 134, 3, [3, 5, 566, 0]), (.iconst 1, 1, []), (.isub, 1, []), (.putfield 134, 3, [3, 5, 566, 0]), (.aload_n 0, 1, []), (.getfield 19, 3, [3, 4, 565, 0]), (.aload_n 0, 1, []), (.getfield 134, 3, [3, 5, 566, 0]), (.iaload, 1, []), (.istore_n 3, 1, []), (.iload_n 3, 1, []), (.ifCond .eq 17, 3, [93])]),
  (79, [(.iload_n 1, 1, []), (.ifCond .eq 13, 3, [93])]),
  (83, [(.iload_n 3, 1, []), (.iload_n 1, 1, []), (.if_icmp .eq 8, 3, [93])]),
  (88, [(.aload_n 0, 1, []), (.iconst 0, 1, []), (.putfield 130, 3, [3, 3, 564, 0])]),
  (93, [(.iload_n 3, 1, []), (.ifCond .ne 7, 3, [101])]),
  (97, [(.iload_n 1, 1, []), (.goto 4, 3, [102])]),
  (101, [(.iload_n 3, 1, [])]),
  (102, [(.ireturn, 1, [])])]
set_option maxRecDepth 100000 in
theorem ok_Judge_pop : fk_okM 73 B_Judge_pop = true := by decide +kernel
abbrev C_Judge_pop : fkC := [(24, [true, true, true, false])]
set_option maxRecDepth 100000 in
set_option maxHeartbeats 4000000 in
theorem S_Judge_pop {d : Nat} {a0 : Int32} {σ : fkS} {Q : Option Value → fkS → Prop} 
  (h : ((((σ.1 50 10) - (1 : Int32)) < 0 →
    Wq 73 d 24 [some (.ref 50), some (.int a0), some (.int ((σ.1 50 10) - (1 : Int32))), none] [] σ Q) ∧
   (¬ ((σ.1 50 10) - (1 : Int32)) < 0 →
    (vp_in ((σ.1 50 10) - (1 : Int32)) 22 ∧
    (((σ.1 53 (((σ.1 50 10) - (1 : Int32)).toNatClampNeg)) < (σ.1 50 5) →
      (vp_in ((σ.1 50 5) - (1 : Int32)) 4100 ∧
      (((σ.1 51 (((σ.1 50 5) - (1 : Int32)).toNatClampNeg)) = 0 →
        ((¬ (σ.1 51 (((σ.1 50 5) - (1 : Int32)).toNatClampNeg)) = 0 →
          Q (some (.int (σ.1 51 (((σ.1 50 5) - (1 : Int32)).toNatClampNeg)))) (sI σ 50 5 ((σ.1 50 5) - (1 : Int32)))) ∧
         ((σ.1 51 (((σ.1 50 5) - (1 : Int32)).toNatClampNeg)) = 0 →
          Q (some (.int a0)) (sI σ 50 5 ((σ.1 50 5) - (1 : Int32)))))) ∧
       (¬ (σ.1 51 (((σ.1 50 5) - (1 : Int32)).toNatClampNeg)) = 0 →
        ((a0 = 0 →
          ((¬ (σ.1 51 (((σ.1 50 5) - (1 : Int32)).toNatClampNeg)) = 0 →
            Q (some (.int (σ.1 51 (((σ.1 50 5) - (1 : Int32)).toNatClampNeg)))) (sI σ 50 5 ((σ.1 50 5) - (1 : Int32)))) ∧
           ((σ.1 51 (((σ.1 50 5) - (1 : Int32)).toNatClampNeg)) = 0 →
            Q (some (.int a0)) (sI σ 50 5 ((σ.1 50 5) - (1 : Int32)))))) ∧
         (¬ a0 = 0 →
          (((σ.1 51 (((σ.1 50 5) - (1 : Int32)).toNatClampNeg)) = a0 →
            ((¬ (σ.1 51 (((σ.1 50 5) - (1 : Int32)).toNatClampNeg)) = 0 →
              Q (some (.int (σ.1 51 (((σ.1 50 5) - (1 : Int32)).toNatClampNeg)))) (sI σ 50 5 ((σ.1 50 5) - (1 : Int32)))) ∧
             ((σ.1 51 (((σ.1 50 5) - (1 : Int32)).toNatClampNeg)) = 0 →
              Q (some (.int a0)) (sI σ 50 5 ((σ.1 50 5) - (1 : Int32)))))) ∧
           (¬ (σ.1 51 (((σ.1 50 5) - (1 : Int32)).toNatClampNeg)) = a0 →
            ((¬ (σ.1 51 (((σ.1 50 5) - (1 : Int32)).toNatClampNeg)) = 0 →
              Q (some (.int (σ.1 51 (((σ.1 50 5) - (1 : Int32)).toNatClampNeg)))) (sI (sI σ 50 5 ((σ.1 50 5) - (1 : Int32))) 50 3 (0 : Int32))) ∧
             ((σ.1 51 (((σ.1 50 5) - (1 : Int32)).toNatClampNeg)) = 0 →
              Q (some (.int a0)) (sI (sI σ 50 5 ((σ.1 50 5) - (1 : Int32))) 50 3 (0 : Int32)))))))))))) ∧
     (¬ (σ.1 53 (((σ.1 50 10) - (1 : Int32)).toNatClampNeg)) < (σ.1 50 5) →
      Wq 73 d 24 [some (.ref 50), some (.int a0), some (.int ((σ.1 50 10) - (1 : Int32))), none] [] σ Q)))))) :
  Cl d 73 [.ref 50, .int a0] σ Q := by
  exact Cl.run B_Judge_pop C_Judge_pop 19 fk_q73 ok_Judge_pop rfl h
set_option maxRecDepth 100000 in
set_option maxHeartbeats 4000000 in
theorem S_Judge_pop_24 {d : Nat} {v1 : Int32} {v2 : Int32} {σ : fkS} {Q : Option Value → fkS → Prop} 
  (h : (((σ.1 50 3) = 0 →
    Q (some (.int v1)) (sI σ 50 3 (0 : Int32))) ∧
   (¬ (σ.1 50 3) = 0 →
    ((v2 < 0 →
      Q (some (.int v1)) (sI σ 50 3 (0 : Int32))) ∧
     (¬ v2 < 0 →
      (vp_in v2 22 ∧
      (((σ.1 55 v2.toNatClampNeg) = 0 →
        Q (some (.int v1)) (sI σ 50 3 (0 : Int32))) ∧
       (¬ (σ.1 55 v2.toNatClampNeg) = 0 →
        Q (some (.int v1)) (sI σ 50 3 (1 : Int32)))))))))) :
  Wq 73 d 24 [some (.ref 50), some (.int v1), some (.int v2), none] [] σ Q := by
  exact fk_run_sound (B := B_Judge_pop) (C := C_Judge_pop) (n := 19) ok_Judge_pop h
def B_Judge_closePart : fkB := [(0, [(.aload_n 0, 1, []), (.getfield 137, 3, [3, 10, 571, 0]), (.ifCond .ne 4, 3, [8])]),
  (7, [(.return_, 1, [])]),
  (8, [(.aload_n 0, 1, []), (.getfield 29, 3, [3, 8, 569, 0]), (.aload_n 0, 1, []), (.getfield 137, 3, [3, 10, 571, 0]), (.iconst 1, 1, []), (.isub, 1, []), (.iaload, 1, []), (.ifCond .eq 19, 3, [38])]),
  (22, [(.aload_n 0, 1, []), (.aload_n 0, 1, []), (.getfield 29, 3, [3, 8, 569, 0]), (.aload_n 0, 1, []), (.getfield 137, 3, [3, 10, 571, 0]), (.iconst 1, 1, []), (.isub, 1, []), (.iaload, 1, []), (.invokevirtual 161, 3, [73, 1, 1190, 0, 4, 3]), (.pop, 1, [])]),
  (38, [(.aload_n 0, 1, []), (.aload_n 0, 1, []), (.getfield 130, 3, [3, 3, 564, 0]), (.ifCond .eq 25, 3, [68])]),
  (46, [(.aload_n 0, 1, []), (.getfield 134, 3, [3, 5, 566, 0]), (.aload_n 0, 1, []), (.getfield 26, 3, [3, 7, 568, 0]), (.aload_n 0, 1, []), (.getfield 137, 3, [3, 10, 571, 0]), (.iconst 1, 1, []), (.isub, 1, []), (.iaload, 1, []), (.if_icmp .ne 7, 3, [68])]),
  (64, [(.iconst 1, 1, []), (.goto 4, 3, [69])]),
  (68, [(.iconst 0, 1, [])]),
  (69, [(.putfield 130, 3, [3, 3, 564, 0]), (.return_, 1, [])])]
set_option maxRecDepth 100000 in
theorem ok_Judge_closePart : fk_okM 74 B_Judge_closePart = true := by decide +kernel
abbrev C_Judge_closePart : fkC := [(38, [true])]
set_option maxRecDepth 100000 in
set_option maxHeartbeats 4000000 in
theorem S_Judge_closePart {d : Nat}  {σ : fkS} {Q : Option Value → fkS → Prop} 
  (h : ((¬ (σ.1 50 10) = 0 →
    (vp_in ((σ.1 50 10) - (1 : Int32)) 22 ∧
    (((σ.1 54 (((σ.1 50 10) - (1 : Int32)).toNatClampNeg)) = 0 →
      Wq 74 (d + 1) 38 [some (.ref 50)] [] σ Q) ∧
     (¬ (σ.1 54 (((σ.1 50 10) - (1 : Int32)).toNatClampNeg)) = 0 →
      (vp_in ((σ.1 50 10) - (1 : Int32)) 22 ∧
      (Di d 73 [.ref 50, .int (σ.1 54 (((σ.1 50 10) - (1 : Int32)).toNatClampNeg))] σ (fun x2 σ1 =>
      Wq 74 (d + 1) 38 [some (.ref 50)] [] (sW σ1 σ) Q))))))) ∧
   ((σ.1 50 10) = 0 →
    Q none σ))) :
  Cl (d + 1) 74 [.ref 50] σ Q := by
  exact Cl.run B_Judge_closePart C_Judge_closePart 12 fk_q74 ok_Judge_closePart rfl h
set_option maxRecDepth 100000 in
set_option maxHeartbeats 4000000 in
theorem S_Judge_closePart_38 {d : Nat}  {σ : fkS} {Q : Option Value → fkS → Prop} 
  (h : (((σ.1 50 3) = 0 →
    Q none (sI σ 50 3 (0 : Int32))) ∧
   (¬ (σ.1 50 3) = 0 →
    (vp_in ((σ.1 50 10) - (1 : Int32)) 22 ∧
    ((¬ (σ.1 50 5) = (σ.1 53 (((σ.1 50 10) - (1 : Int32)).toNatClampNeg)) →
      Q none (sI σ 50 3 (0 : Int32))) ∧
     ((σ.1 50 5) = (σ.1 53 (((σ.1 50 10) - (1 : Int32)).toNatClampNeg)) →
      Q none (sI σ 50 3 (1 : Int32)))))))) :
  Wq 74 (d + 1) 38 [some (.ref 50)] [] σ Q := by
  exact fk_run_sound (B := B_Judge_closePart) (C := C_Judge_closePart) (n := 12) ok_Judge_closePart h
def B_Judge_closeBlock : fkB := [(0, [(.aload_n 0, 1, []), (.invokevirtual 198, 3, [74, 0, 1194, 0, 3, 3]), (.aload_n 0, 1, []), (.getfield 137, 3, [3, 10, 571, 0]), (.ifCond .ne 4, 3, [12])]),
  (11, [(.return_, 1, [])]),
  (12, [(.aload_n 0, 1, []), (.getfield 23, 3, [3, 6, 567, 0]), (.aload_n 0, 1, []), (.getfield 137, 3, [3, 10, 571, 0]), (.iconst 1, 1, []), (.isub, 1, []), (.iaload, 1, []), (.istore_n 1, 1, []), (.aload_n 0, 1, []), (.getfield 29, 3, [3, 8, 569, 0]), (.aload_n 0, 1, []), (.getfield 137, 3, [3, 10, 571, 0]), (.iconst 1, 1, []), (.isub, 1, []), (.iaload, 1, []), (.istore_n 2, 1, []), (.iload_n 1, 1, []), (.ifCond .lt 47, 3, [84])]),
  (40, [(.aload_n 0, 1, []), (.getfield 15, 3, [3, 1, 562, 0]), (.getfield 155, 3, [2, 6, 336, 1]), (.iload_n 1, 1, []), (.iaload, 1, []), (.iconst 4, 1, []), (.if_icmp .ne 34, 3, [84])]),
  (53, [(.aload_n 0, 1, []), (.getfield 15, 3, [3, 1, 562, 0]), (.getfield 155, 3, [2, 6, 336, 1]), (.aload_n 0, 1, []), (.getfield 15, 3, [3, 1, 562, 0]), (.getfield 204, 3, [2, 8, 344, 1]), (.iload_n 1, 1, []), (.iaload, 1, []), (.iaload, 1, []), (.bipush 11, 2, []), (.if_icmp .ne 12, 3, [84])]),
  (75, [(.iload_n 2, 1, []), (.ifCond .eq 8, 3, [84])]),
  (79, [(.aload_n 0, 1, []), (.iconst 0, 1, []), (.putfield 130, 3, [3, 3, 564, 0])]),
  (84, [(.aload_n 0, 1, []), (.dup, 1, []), (.getfield 137, 3, [3, 10, 571, 0]), (.iconst 1, 1, []), (.isub, 1, []), (.putfield 137, 3, [3, 10, 571, 0]), (.iload_n 2, 1, []), (.ifCond .eq 8, 3, [103])]),
  (98, [(.aload_n 0, 1, []), (.iload_n 2, 1, []), (.invokevirtual 164, 3, [76, 1, 1202, 0, 3, 3])]),
  (103, [(.return_, 1, [])])]
set_option maxRecDepth 100000 in
theorem ok_Judge_closeBlock : fk_okM 75 B_Judge_closeBlock = true := by decide +kernel
abbrev C_Judge_closeBlock : fkC := []
set_option maxRecDepth 100000 in
set_option maxHeartbeats 4000000 in
theorem S_Judge_closeBlock {d : Nat}  {σ : fkS} {Q : Option Value → fkS → Prop} (h50_1 : σ.2.2 50 1 = 37)
  (h : (Dv d 74 [.ref 50] σ (fun σ1 =>
  ((¬ ((sW σ1 σ).1 50 10) = 0 →
    (vp_in (((sW σ1 σ).1 50 10) - (1 : Int32)) 22 ∧
    (vp_in (((sW σ1 σ).1 50 10) - (1 : Int32)) 22 ∧
    ((((sW σ1 σ).1 52 ((((sW σ1 σ).1 50 10) - (1 : Int32)).toNatClampNeg)) < 0 →
      ((((sW σ1 σ).1 54 ((((sW σ1 σ).1 50 10) - (1 : Int32)).toNatClampNeg)) = 0 →
        Q none (sI (sW σ1 σ) 50 10 (((sW σ1 σ).1 50 10) - (1 : Int32)))) ∧
       (¬ ((sW σ1 σ).1 54 ((((sW σ1 σ).1 50 10) - (1 : Int32)).toNatClampNeg)) = 0 →
        (Dv d 76 [.ref 50, .int ((sW σ1 σ).1 54 ((((sW σ1 σ).1 50 10) - (1 : Int32)).toNatClampNeg))] (sI (sW σ1 σ) 50 10 (((sW σ1 σ).1 50 10) - (1 : Int32))) (fun σ2 =>
        Q none (sW σ2 σ)))))) ∧
     (¬ ((sW σ1 σ).1 52 ((((sW σ1 σ).1 50 10) - (1 : Int32)).toNatClampNeg)) < 0 →
      (¬ (37 : Nat) = 0 ∧
      (vp_in ((sW σ1 σ).1 52 ((((sW σ1 σ).1 50 10) - (1 : Int32)).toNatClampNeg)) 4000 ∧
      ((¬ ((sW σ1 σ).1 41 (((sW σ1 σ).1 52 ((((sW σ1 σ).1 50 10) - (1 : Int32)).toNatClampNeg)).toNatClampNeg)) = (4 : Int32) →
        ((((sW σ1 σ).1 54 ((((sW σ1 σ).1 50 10) - (1 : Int32)).toNatClampNeg)) = 0 →
          Q none (sI (sW σ1 σ) 50 10 (((sW σ1 σ).1 50 10) - (1 : Int32)))) ∧
         (¬ ((sW σ1 σ).1 54 ((((sW σ1 σ).1 50 10) - (1 : Int32)).toNatClampNeg)) = 0 →
          (Dv d 76 [.ref 50, .int ((sW σ1 σ).1 54 ((((sW σ1 σ).1 50 10) - (1 : Int32)).toNatClampNeg))] (sI (sW σ1 σ) 50 10 (((sW σ1 σ).1 50 10) - (1 : Int32))) (fun σ3 =>
          Q none (sW σ3 σ)))))) ∧
       (((sW σ1 σ).1 41 (((sW σ1 σ).1 52 ((((sW σ1 σ).1 50 10) - (1 : Int32)).toNatClampNeg)).toNatClampNeg)) = (4 : Int32) →
        (¬ (37 : Nat) = 0 ∧
        (¬ (37 : Nat) = 0 ∧
        (vp_in ((sW σ1 σ).1 52 ((((sW σ1 σ).1 50 10) - (1 : Int32)).toNatClampNeg)) 4000 ∧
        (vp_in ((sW σ1 σ).1 43 (((sW σ1 σ).1 52 ((((sW σ1 σ).1 50 10) - (1 : Int32)).toNatClampNeg)).toNatClampNeg)) 4000 ∧
        ((¬ ((sW σ1 σ).1 41 (((sW σ1 σ).1 43 (((sW σ1 σ).1 52 ((((sW σ1 σ).1 50 10) - (1 : Int32)).toNatClampNeg)).toNatClampNeg)).toNatClampNeg)) = (11 : Int32) →
          ((((sW σ1 σ).1 54 ((((sW σ1 σ).1 50 10) - (1 : Int32)).toNatClampNeg)) = 0 →
            Q none (sI (sW σ1 σ) 50 10 (((sW σ1 σ).1 50 10) - (1 : Int32)))) ∧
           (¬ ((sW σ1 σ).1 54 ((((sW σ1 σ).1 50 10) - (1 : Int32)).toNatClampNeg)) = 0 →
            (Dv d 76 [.ref 50, .int ((sW σ1 σ).1 54 ((((sW σ1 σ).1 50 10) - (1 : Int32)).toNatClampNeg))] (sI (sW σ1 σ) 50 10 (((sW σ1 σ).1 50 10) - (1 : Int32))) (fun σ4 =>
            Q none (sW σ4 σ)))))) ∧
         (((sW σ1 σ).1 41 (((sW σ1 σ).1 43 (((sW σ1 σ).1 52 ((((sW σ1 σ).1 50 10) - (1 : Int32)).toNatClampNeg)).toNatClampNeg)).toNatClampNeg)) = (11 : Int32) →
          ((((sW σ1 σ).1 54 ((((sW σ1 σ).1 50 10) - (1 : Int32)).toNatClampNeg)) = 0 →
            ((((sW σ1 σ).1 54 ((((sW σ1 σ).1 50 10) - (1 : Int32)).toNatClampNeg)) = 0 →
              Q none (sI (sW σ1 σ) 50 10 (((sW σ1 σ).1 50 10) - (1 : Int32)))) ∧
             (¬ ((sW σ1 σ).1 54 ((((sW σ1 σ).1 50 10) - (1 : Int32)).toNatClampNeg)) = 0 →
              (Dv d 76 [.ref 50, .int ((sW σ1 σ).1 54 ((((sW σ1 σ).1 50 10) - (1 : Int32)).toNatClampNeg))] (sI (sW σ1 σ) 50 10 (((sW σ1 σ).1 50 10) - (1 : Int32))) (fun σ5 =>
              Q none (sW σ5 σ)))))) ∧
           (¬ ((sW σ1 σ).1 54 ((((sW σ1 σ).1 50 10) - (1 : Int32)).toNatClampNeg)) = 0 →
            ((((sW σ1 σ).1 54 ((((sW σ1 σ).1 50 10) - (1 : Int32)).toNatClampNeg)) = 0 →
              Q none (sI (sI (sW σ1 σ) 50 3 (0 : Int32)) 50 10 (((sW σ1 σ).1 50 10) - (1 : Int32)))) ∧
             (¬ ((sW σ1 σ).1 54 ((((sW σ1 σ).1 50 10) - (1 : Int32)).toNatClampNeg)) = 0 →
              (Dv d 76 [.ref 50, .int ((sW σ1 σ).1 54 ((((sW σ1 σ).1 50 10) - (1 : Int32)).toNatClampNeg))] (sI (sI (sW σ1 σ) 50 3 (0 : Int32)) 50 10 (((sW σ1 σ).1 50 10) - (1 : Int32))) (fun σ6 =>
              Q none (sW σ6 σ)))))))))))))))))))))) ∧
   (((sW σ1 σ).1 50 10) = 0 →
    Q none (sW σ1 σ)))))) :
  Cl (d + 1) 75 [.ref 50] σ Q := by
  rw [← sR_eta h50_1] at h ⊢
  exact Cl.run B_Judge_closeBlock C_Judge_closeBlock 13 fk_q75 ok_Judge_closeBlock rfl h
def B_Judge_push : fkB := [(0, [(.aload_n 0, 1, []), (.getfield 134, 3, [3, 5, 566, 0]), (.sipush 4100, 3, []), (.if_icmp .ge 23, 3, [30])]),
  (10, [(.aload_n 0, 1, []), (.getfield 19, 3, [3, 4, 565, 0]), (.aload_n 0, 1, []), (.getfield 134, 3, [3, 5, 566, 0]), (.iload_n 1, 1, []), (.iastore, 1, []), (.aload_n 0, 1, []), (.dup, 1, []), (.getfield 134, 3, [3, 5, 566, 0]), (.iconst 1, 1, []), (.iadd, 1, []), (.putfield 134, 3, [3, 5, 566, 0])]),
  (30, [(.return_, 1, [])])]
set_option maxRecDepth 100000 in
theorem ok_Judge_push : fk_okM 76 B_Judge_push = true := by decide +kernel
abbrev C_Judge_push : fkC := []
set_option maxRecDepth 100000 in
set_option maxHeartbeats 4000000 in
theorem S_Judge_push {d : Nat} {a0 : Int32} {σ : fkS} {Q : Option Value → fkS → Prop} 
  (h : (((4100 : Int32) ≤ (σ.1 50 5) →
    Q none σ) ∧
   (¬ (4100 : Int32) ≤ (σ.1 50 5) →
    (vp_in (σ.1 50 5) 4100 ∧
    Q none (sI (sI σ 51 ((σ.1 50 5).toNatClampNeg) a0) 50 5 ((σ.1 50 5) + (1 : Int32))))))) :
  Cl d 76 [.ref 50, .int a0] σ Q := by
  exact Cl.run B_Judge_push C_Judge_push 6 fk_q76 ok_Judge_push rfl h
def B_Judge_branch : fkB := [(0, [(.iload_n 2, 1, []), (.bipush 15, 2, []), (.if_icmp .ne 18, 3, [21])]),
  (6, [(.aload_n 0, 1, []), (.aload_n 0, 1, []), (.getfield 29, 3, [3, 8, 569, 0]), (.iconst 0, 1, []), (.iaload, 1, []), (.invokevirtual 207, 3, [78, 1, 1210, 0, 3, 3]), (.aload_n 0, 1, []), (.invokevirtual 195, 3, [72, 0, 1186, 0, 3, 3]), (.return_, 1, [])]),
  (21, [(.iload_n 2, 1, []), (.bipush 12, 2, []), (.if_icmp .eq 10, 3, [34])]),
  (27, [(.aload_n 0, 1, []), (.bipush 127, 2, []), (.invokevirtual 161, 3, [73, 1, 1190, 0, 4, 3]), (.pop, 1, [])]),
  (34, [(.aload_n 0, 1, []), (.getfield 15, 3, [3, 1, 562, 0]), (.getfield 180, 3, [2, 7, 340, 1]), (.iload_n 1, 1, []), (.laload, 1, []), (.l2i, 1, []), (.istore_n 3, 1, []), (.iload_n 3, 1, []), (.iload_n 2, 1, []), (.bipush 14, 2, []), (.if_icmp .ne 15, 3, [64])]),
  (52, [(.aload_n 0, 1, []), (.getfield 15, 3, [3, 1, 562, 0]), (.getfield 204, 3, [2, 8, 344, 1]), (.iload_n 1, 1, []), (.iaload, 1, []), (.goto 4, 3, [65])]),
  (64, [(.iconst 0, 1, [])]),
  (65, [(.iadd, 1, []), (.istore 4, 2, []), (.aload_n 0, 1, []), (.iload 4, 2, []), (.invokevirtual 210, 3, [79, 1, 1214, 0, 4, 3]), (.istore 5, 2, []), (.iload_n 3, 1, []), (.istore 6, 2, [])]),
  (79, [(.iload 6, 2, []), (.iload 4, 2, []), (.if_icmp .gt 32, 3, [115])]),
  (86, [(.aload_n 0, 1, []), (.getfield 130, 3, [3, 3, 564, 0]), (.ifCond .eq 25, 3, [115])]),
  (93, [(.aload_n 0, 1, []), (.iload 6, 2, []), (.invokevirtual 210, 3, [79, 1, 1214, 0, 4, 3]), (.iload 5, 2, []), (.if_icmp .eq 8, 3, [109])]),
  (104, [(.aload_n 0, 1, []), (.iconst 0, 1, []), (.putfield 130, 3, [3, 3, 564, 0])]),
  (109, [(.iinc 6 1, 3, []), (.goto (-33), 3, [79])]),
  (115, [(.iload_n 3, 1, []), (.istore 6, 2, [])]),
  (118, [(.iload 6, 2, []), (.iload 4, 2, []), (.if_icmp .gt 22, 3, [144])]),
  (125, [(.aload_n 0, 1, []), (.getfield 130, 3, [3, 3, 564, 0]), (.ifCond .eq 15, 3, [144])]),
  (132, [(.aload_n 0, 1, []), (.iload 6, 2, []), (.invokevirtual 213, 3, [82, 1, 1226, 0, 3, 3]), (.iinc 6 1, 3, []), (.goto (-23), 3, [118])]),
  (144, [(.aload_n 0, 1, []), (.iload 5, 2, []), (.invokevirtual 207, 3, [78, 1, 1210, 0, 3, 3]), (.iload_n 2, 1, []), (.bipush 13, 2, []), (.if_icmp .ne 12, 3, [165])]),
  (156, [(.aload_n 0, 1, []), (.iload 5, 2, []), (.invokevirtual 216, 3, [84, 1, 1234, 0, 3, 3]), (.goto 7, 3, [169])]),
  (165, [(.aload_n 0, 1, []), (.invokevirtual 195, 3, [72, 0, 1186, 0, 3, 3])]),
  (169, [(.return_, 1, [])])]
set_option maxRecDepth 100000 in
theorem ok_Judge_branch : fk_okM 77 B_Judge_branch = true := by decide +kernel
abbrev C_Judge_branch : fkC := [(34, [true, true, true, false, false, false, false]), (79, [true, false, true, true, true, true, true]), (118, [true, false, true, false, true, true, true])]
set_option maxRecDepth 100000 in
set_option maxHeartbeats 4000000 in
theorem S_Judge_branch {d : Nat} {a0 : Int32} {a1 : Int32} {σ : fkS} {Q : Option Value → fkS → Prop} 
  (h : ((¬ a1 = (15 : Int32) →
    ((a1 = (12 : Int32) →
      Wq 77 (d + 1) 34 [some (.ref 50), some (.int a0), some (.int a1), none, none, none, none] [] σ Q) ∧
     (¬ a1 = (12 : Int32) →
      (Di d 73 [.ref 50, .int (127 : Int32)] σ (fun x2 σ1 =>
      Wq 77 (d + 1) 34 [some (.ref 50), some (.int a0), some (.int a1), none, none, none, none] [] (sW σ1 σ) Q))))) ∧
   (a1 = (15 : Int32) →
    (vp_in (0 : Int32) 22 ∧
    (Dv d 78 [.ref 50, .int (σ.1 54 ((0 : Int32).toNatClampNeg))] σ (fun σ3 =>
    (Dv d 72 [.ref 50] (sW σ3 σ) (fun σ4 =>
    Q none (sW σ4 σ))))))))) :
  Cl (d + 1) 77 [.ref 50, .int a0, .int a1] σ Q := by
  exact Cl.run B_Judge_branch C_Judge_branch 24 fk_q77 ok_Judge_branch rfl h
set_option maxRecDepth 100000 in
set_option maxHeartbeats 4000000 in
theorem S_Judge_branch_34 {d : Nat} {v1 : Int32} {v2 : Int32} {σ : fkS} {Q : Option Value → fkS → Prop} (h50_1 : σ.2.2 50 1 = 37)
  (h : (¬ (37 : Nat) = 0 ∧
  (vp_in v1 4000 ∧
  ((¬ v2 = (14 : Int32) →
    (Di d 79 [.ref 50, .int (((σ.2.1 42 v1.toNatClampNeg).toInt32) + (0 : Int32))] σ (fun x2 σ1 =>
    Wq 77 (d + 1) 79 [some (.ref 50), none, some (.int v2), some (.int ((σ.2.1 42 v1.toNatClampNeg).toInt32)), some (.int (((σ.2.1 42 v1.toNatClampNeg).toInt32) + (0 : Int32))), some (.int x2), some (.int ((σ.2.1 42 v1.toNatClampNeg).toInt32))] [] (sW σ1 σ) Q))) ∧
   (v2 = (14 : Int32) →
    (¬ (37 : Nat) = 0 ∧
    (vp_in v1 4000 ∧
    (Di d 79 [.ref 50, .int (((σ.2.1 42 v1.toNatClampNeg).toInt32) + (σ.1 43 v1.toNatClampNeg))] σ (fun x4 σ3 =>
    Wq 77 (d + 1) 79 [some (.ref 50), none, some (.int v2), some (.int ((σ.2.1 42 v1.toNatClampNeg).toInt32)), some (.int (((σ.2.1 42 v1.toNatClampNeg).toInt32) + (σ.1 43 v1.toNatClampNeg))), some (.int x4), some (.int ((σ.2.1 42 v1.toNatClampNeg).toInt32))] [] (sW σ3 σ) Q))))))))) :
  Wq 77 (d + 1) 34 [some (.ref 50), some (.int v1), some (.int v2), none, none, none, none] [] σ Q := by
  rw [← sR_eta h50_1] at h ⊢
  exact fk_run_sound (B := B_Judge_branch) (C := C_Judge_branch) (n := 24) ok_Judge_branch h
set_option maxRecDepth 100000 in
set_option maxHeartbeats 4000000 in
theorem S_Judge_branch_79 {d : Nat} {v2 : Int32} {v3 : Int32} {v4 : Int32} {v5 : Int32} {v6 : Int32} {σ : fkS} {Q : Option Value → fkS → Prop} 
  (h : ((v4 < v6 →
    Wq 77 (d + 1) 118 [some (.ref 50), none, some (.int v2), none, some (.int v4), some (.int v5), some (.int v3)] [] σ Q) ∧
   (¬ v4 < v6 →
    (((σ.1 50 3) = 0 →
      Wq 77 (d + 1) 118 [some (.ref 50), none, some (.int v2), none, some (.int v4), some (.int v5), some (.int v3)] [] σ Q) ∧
     (¬ (σ.1 50 3) = 0 →
      (Di d 79 [.ref 50, .int v6] σ (fun x2 σ1 =>
      ((x2 = v5 →
        Wq 77 (d + 1) 79 [some (.ref 50), none, some (.int v2), some (.int v3), some (.int v4), some (.int v5), some (.int (v6 + (1 : Int32)))] [] (sW σ1 σ) Q) ∧
       (¬ x2 = v5 →
        Wq 77 (d + 1) 79 [some (.ref 50), none, some (.int v2), some (.int v3), some (.int v4), some (.int v5), some (.int (v6 + (1 : Int32)))] [] (sI (sW σ1 σ) 50 3 (0 : Int32)) Q))))))))) :
  Wq 77 (d + 1) 79 [some (.ref 50), none, some (.int v2), some (.int v3), some (.int v4), some (.int v5), some (.int v6)] [] σ Q := by
  exact fk_run_sound (B := B_Judge_branch) (C := C_Judge_branch) (n := 24) ok_Judge_branch h
set_option maxRecDepth 100000 in
set_option maxHeartbeats 4000000 in
theorem S_Judge_branch_118 {d : Nat} {v2 : Int32} {v4 : Int32} {v5 : Int32} {v6 : Int32} {σ : fkS} {Q : Option Value → fkS → Prop} 
  (h : ((v4 < v6 →
    (Dv d 78 [.ref 50, .int v5] σ (fun σ1 =>
    ((¬ v2 = (13 : Int32) →
      (Dv d 72 [.ref 50] (sW σ1 σ) (fun σ2 =>
      Q none (sW σ2 σ)))) ∧
     (v2 = (13 : Int32) →
      (Dv d 84 [.ref 50, .int v5] (sW σ1 σ) (fun σ3 =>
      Q none (sW σ3 σ)))))))) ∧
   (¬ v4 < v6 →
    (((σ.1 50 3) = 0 →
      (Dv d 78 [.ref 50, .int v5] σ (fun σ4 =>
      ((¬ v2 = (13 : Int32) →
        (Dv d 72 [.ref 50] (sW σ4 σ) (fun σ5 =>
        Q none (sW σ5 σ)))) ∧
       (v2 = (13 : Int32) →
        (Dv d 84 [.ref 50, .int v5] (sW σ4 σ) (fun σ6 =>
        Q none (sW σ6 σ)))))))) ∧
     (¬ (σ.1 50 3) = 0 →
      (Dv d 82 [.ref 50, .int v6] σ (fun σ7 =>
      Wq 77 (d + 1) 118 [some (.ref 50), none, some (.int v2), none, some (.int v4), some (.int v5), some (.int (v6 + (1 : Int32)))] [] (sW σ7 σ) Q))))))) :
  Wq 77 (d + 1) 118 [some (.ref 50), none, some (.int v2), none, some (.int v4), some (.int v5), some (.int v6)] [] σ Q := by
  exact fk_run_sound (B := B_Judge_branch) (C := C_Judge_branch) (n := 24) ok_Judge_branch h
def B_Judge_popGiven : fkB := [(0, [(.iload_n 1, 1, []), (.ifCond .eq 9, 3, [10])]),
  (4, [(.aload_n 0, 1, []), (.iload_n 1, 1, []), (.invokevirtual 161, 3, [73, 1, 1190, 0, 4, 3]), (.pop, 1, [])]),
  (10, [(.return_, 1, [])])]
set_option maxRecDepth 100000 in
theorem ok_Judge_popGiven : fk_okM 78 B_Judge_popGiven = true := by decide +kernel
abbrev C_Judge_popGiven : fkC := []
set_option maxRecDepth 100000 in
set_option maxHeartbeats 4000000 in
theorem S_Judge_popGiven {d : Nat} {a0 : Int32} {σ : fkS} {Q : Option Value → fkS → Prop} 
  (h : ((a0 = 0 →
    Q none σ) ∧
   (¬ a0 = 0 →
    (Di d 73 [.ref 50, .int a0] σ (fun x2 σ1 =>
    Q none (sW σ1 σ)))))) :
  Cl (d + 1) 78 [.ref 50, .int a0] σ Q := by
  exact Cl.run B_Judge_popGiven C_Judge_popGiven 6 fk_q78 ok_Judge_popGiven rfl h
def B_Judge_labelGives : fkB := [(0, [(.aload_n 0, 1, []), (.iload_n 1, 1, []), (.invokevirtual 222, 3, [80, 1, 1218, 0, 4, 3]), (.istore_n 2, 1, []), (.iload_n 2, 1, []), (.ifCond .ge 10, 3, [17])]),
  (10, [(.aload_n 0, 1, []), (.iconst 0, 1, []), (.putfield 130, 3, [3, 3, 564, 0]), (.iconst 0, 1, []), (.ireturn, 1, [])]),
  (17, [(.aload_n 0, 1, []), (.iload_n 2, 1, []), (.invokevirtual 225, 3, [81, 1, 1222, 0, 4, 3]), (.ifCond .eq 7, 3, [29])]),
  (25, [(.iconst 0, 1, []), (.goto 9, 3, [35])]),
  (29, [(.aload_n 0, 1, []), (.getfield 29, 3, [3, 8, 569, 0]), (.iload_n 2, 1, []), (.iaload, 1, [])]),
  (35, [(.ireturn, 1, [])])]
set_option maxRecDepth 100000 in
theorem ok_Judge_labelGives : fk_okM 79 B_Judge_labelGives = true := by decide +kernel
abbrev C_Judge_labelGives : fkC := []
set_option maxRecDepth 100000 in
set_option maxHeartbeats 4000000 in
theorem S_Judge_labelGives {d : Nat} {a0 : Int32} {σ : fkS} {Q : Option Value → fkS → Prop} 
  (h : (Di d 80 [.ref 50, .int a0] σ (fun x2 σ1 =>
  ((0 ≤ x2 →
    (Di d 81 [.ref 50, .int x2] (sW σ1 σ) (fun x4 σ3 =>
    ((x4 = 0 →
      (vp_in x2 22 ∧
      Q (some (.int ((sW σ3 σ).1 54 x2.toNatClampNeg))) (sW σ3 σ))) ∧
     (¬ x4 = 0 →
      Q (some (.int (0 : Int32))) (sW σ3 σ)))))) ∧
   (¬ 0 ≤ x2 →
    Q (some (.int (0 : Int32))) (sI (sW σ1 σ) 50 3 (0 : Int32))))))) :
  Cl (d + 1) 79 [.ref 50, .int a0] σ Q := by
  exact Cl.run B_Judge_labelGives C_Judge_labelGives 9 fk_q79 ok_Judge_labelGives rfl h
def B_Judge_blockOf : fkB := [(0, [(.aload_n 0, 1, []), (.getfield 15, 3, [3, 1, 562, 0]), (.getfield 219, 3, [2, 10, 350, 1]), (.iconst 3, 1, []), (.iload_n 1, 1, []), (.imul, 1, []), (.iaload, 1, []), (.istore_n 2, 1, []), (.iload_n 2, 1, []), (.ifCond .lt 11, 3, [24])]),
  (16, [(.iload_n 2, 1, []), (.aload_n 0, 1, []), (.getfield 137, 3, [3, 10, 571, 0]), (.if_icmp .lt 7, 3, [28])]),
  (24, [(.iconst (-1), 1, []), (.goto 11, 3, [36])]),
  (28, [(.aload_n 0, 1, []), (.getfield 137, 3, [3, 10, 571, 0]), (.iconst 1, 1, []), (.isub, 1, []), (.iload_n 2, 1, []), (.isub, 1, [])]),
  (36, [(.ireturn, 1, [])])]
set_option maxRecDepth 100000 in
theorem ok_Judge_blockOf : fk_okM 80 B_Judge_blockOf = true := by decide +kernel
abbrev C_Judge_blockOf : fkC := []
set_option maxRecDepth 100000 in
set_option maxHeartbeats 4000000 in
theorem S_Judge_blockOf {d : Nat} {a0 : Int32} {σ : fkS} {Q : Option Value → fkS → Prop} (h50_1 : σ.2.2 50 1 = 37)
  (h : (¬ (37 : Nat) = 0 ∧
  (vp_in ((3 : Int32) * a0) 12000 ∧
  (((σ.1 44 (((3 : Int32) * a0).toNatClampNeg)) < 0 →
    Q (some (.int (-1 : Int32))) σ) ∧
   (¬ (σ.1 44 (((3 : Int32) * a0).toNatClampNeg)) < 0 →
    (((σ.1 44 (((3 : Int32) * a0).toNatClampNeg)) < (σ.1 50 10) →
      Q (some (.int (((σ.1 50 10) - (1 : Int32)) - (σ.1 44 (((3 : Int32) * a0).toNatClampNeg))))) σ) ∧
     (¬ (σ.1 44 (((3 : Int32) * a0).toNatClampNeg)) < (σ.1 50 10) →
      Q (some (.int (-1 : Int32))) σ))))))) :
  Cl d 80 [.ref 50, .int a0] σ Q := by
  rw [← sR_eta h50_1] at h ⊢
  exact Cl.run B_Judge_blockOf C_Judge_blockOf 8 fk_q80 ok_Judge_blockOf rfl h
def B_Judge_isLoop : fkB := [(0, [(.aload_n 0, 1, []), (.getfield 23, 3, [3, 6, 567, 0]), (.iload_n 1, 1, []), (.iaload, 1, []), (.ifCond .lt 25, 3, [31])]),
  (9, [(.aload_n 0, 1, []), (.getfield 15, 3, [3, 1, 562, 0]), (.getfield 155, 3, [2, 6, 336, 1]), (.aload_n 0, 1, []), (.getfield 23, 3, [3, 6, 567, 0]), (.iload_n 1, 1, []), (.iaload, 1, []), (.iaload, 1, []), (.iconst 3, 1, []), (.if_icmp .ne 7, 3, [31])]),
  (27, [(.iconst 1, 1, []), (.goto 4, 3, [32])]),
  (31, [(.iconst 0, 1, [])]),
  (32, [(.ireturn, 1, [])])]
set_option maxRecDepth 100000 in
theorem ok_Judge_isLoop : fk_okM 81 B_Judge_isLoop = true := by decide +kernel
abbrev C_Judge_isLoop : fkC := []
set_option maxRecDepth 100000 in
set_option maxHeartbeats 4000000 in
theorem S_Judge_isLoop {d : Nat} {a0 : Int32} {σ : fkS} {Q : Option Value → fkS → Prop} (h50_1 : σ.2.2 50 1 = 37)
  (h : (vp_in a0 22 ∧
  (((σ.1 52 a0.toNatClampNeg) < 0 →
    Q (some (.int (0 : Int32))) σ) ∧
   (¬ (σ.1 52 a0.toNatClampNeg) < 0 →
    (¬ (37 : Nat) = 0 ∧
    (vp_in a0 22 ∧
    (vp_in (σ.1 52 a0.toNatClampNeg) 4000 ∧
    ((¬ (σ.1 41 ((σ.1 52 a0.toNatClampNeg).toNatClampNeg)) = (3 : Int32) →
      Q (some (.int (0 : Int32))) σ) ∧
     ((σ.1 41 ((σ.1 52 a0.toNatClampNeg).toNatClampNeg)) = (3 : Int32) →
      Q (some (.int (1 : Int32))) σ))))))))) :
  Cl d 81 [.ref 50, .int a0] σ Q := by
  rw [← sR_eta h50_1] at h ⊢
  exact Cl.run B_Judge_isLoop C_Judge_isLoop 8 fk_q81 ok_Judge_isLoop rfl h
def B_Judge_resolve : fkB := [(0, [(.aload_n 0, 1, []), (.iload_n 1, 1, []), (.invokevirtual 222, 3, [80, 1, 1218, 0, 4, 3]), (.istore_n 2, 1, []), (.aload_n 0, 1, []), (.getfield 15, 3, [3, 1, 562, 0]), (.getfield 152, 3, [2, 2, 320, 1]), (.aload_n 0, 1, []), (.getfield 127, 3, [3, 2, 563, 0]), (.iaload, 1, []), (.istore_n 3, 1, []), (.aload_n 0, 1, []), (.iload_n 2, 1, []), (.invokevirtual 225, 3, [81, 1, 1222, 0, 4, 3]), (.ifCond .eq 15, 3, [39])]),
  (27, [(.aload_n 0, 1, []), (.getfield 23, 3, [3, 6, 567, 0]), (.iload_n 2, 1, []), (.iaload, 1, []), (.iconst 1, 1, []), (.iadd, 1, []), (.istore_n 3, 1, []), (.goto 26, 3, [62])]),
  (39, [(.aload_n 0, 1, []), (.getfield 23, 3, [3, 6, 567, 0]), (.iload_n 2, 1, []), (.iaload, 1, []), (.ifCond .lt 17, 3, [62])]),
  (48, [(.aload_n 0, 1, []), (.getfield 15, 3, [3, 1, 562, 0]), (.aload_n 0, 1, []), (.getfield 23, 3, [3, 6, 567, 0]), (.iload_n 2, 1, []), (.iaload, 1, []), (.invokevirtual 228, 3, [83, 1, 1230, 1, 4, 2]), (.istore_n 3, 1, [])]),
  (62, [(.aload_n 0, 1, []), (.getfield 15, 3, [3, 1, 562, 0]), (.getfield 219, 3, [2, 10, 350, 1]), (.iconst 3, 1, []), (.iload_n 1, 1, []), (.imul, 1, []), (.iload_n 3, 1, []), (.iastore, 1, []), (.aload_n 0, 1, []), (.getfield 15, 3, [3, 1, 562, 0]), (.getfield 219, 3, [2, 10, 350, 1]), (.iconst 3, 1, []), (.iload_n 1, 1, []), (.imul, 1, []), (.iconst 1, 1, []), (.iadd, 1, []), (.aload_n 0, 1, []), (.getfield 26, 3, [3, 7, 568, 0]), (.iload_n 2, 1, []), (.iaload, 1, []), (.iastore, 1, []), (.aload_n 0, 1, []), (.getfield 15, 3, [3, 1, 562, 0]), (.getfield 219, 3, [2, 10, 350, 1]), (.iconst 3, 1, []), (.iload_n 1, 1, []), (.imul, 1, []), (.iconst 2, 1, []), (.iadd, 1, []), (.aload_n 0, 1, []), (.iload_n 2, 1, []), (.invokevirtual 225, 3, [81, 1, 1222, 0, 4, 3]), (.ifCond .ne 12, 3, [122])]),
  (113, [(.aload_n 0, 1, []), (.getfield 29, 3, [3, 8, 569, 0]), (.iload_n 2, 1, []), (.iaload, 1, []), (.ifCond .ne 7, 3, [126])]),
  (122, [(.iconst 0, 1, []), (.goto 4, 3, [127])]),
  (126, [(.iconst 1, 1, [])]),
  (127, [(.iastore, 1, []), (.return_, 1, [])])]
set_option maxRecDepth 100000 in
theorem ok_Judge_resolve : fk_okM 82 B_Judge_resolve = true := by decide +kernel
abbrev C_Judge_resolve : fkC := [(62, [true, true, true, true])]
set_option maxRecDepth 100000 in
set_option maxHeartbeats 4000000 in
theorem S_Judge_resolve {d : Nat} {a0 : Int32} {σ : fkS} {Q : Option Value → fkS → Prop} (h50_1 : σ.2.2 50 1 = 37)
  (h : (Di d 80 [.ref 50, .int a0] σ (fun x2 σ1 =>
  (¬ (37 : Nat) = 0 ∧
  (vp_in ((sW σ1 σ).1 50 2) 60 ∧
  (Di d 81 [.ref 50, .int x2] (sW σ1 σ) (fun x4 σ3 =>
  ((x4 = 0 →
    (vp_in x2 22 ∧
    ((((sW σ3 σ).1 52 x2.toNatClampNeg) < 0 →
      Wq 82 (d + 1) 62 [some (.ref 50), some (.int a0), some (.int x2), some (.int ((sW σ1 σ).1 38 (((sW σ1 σ).1 50 2).toNatClampNeg)))] [] (sW σ3 σ) Q) ∧
     (¬ ((sW σ3 σ).1 52 x2.toNatClampNeg) < 0 →
      (¬ (37 : Nat) = 0 ∧
      (vp_in x2 22 ∧
      (Di d 83 [.ref 36, .int ((sW σ3 σ).1 52 x2.toNatClampNeg)] (sW σ3 σ) (fun x6 σ5 =>
      Wq 82 (d + 1) 62 [some (.ref 50), some (.int a0), some (.int x2), some (.int x6)] [] (sW σ5 σ) Q)))))))) ∧
   (¬ x4 = 0 →
    (vp_in x2 22 ∧
    Wq 82 (d + 1) 62 [some (.ref 50), some (.int a0), some (.int x2), some (.int (((sW σ3 σ).1 52 x2.toNatClampNeg) + (1 : Int32)))] [] (sW σ3 σ) Q)))))))))) :
  Cl (d + 1) 82 [.ref 50, .int a0] σ Q := by
  rw [← sR_eta h50_1] at h ⊢
  exact Cl.run B_Judge_resolve C_Judge_resolve 12 fk_q82 ok_Judge_resolve rfl h
set_option maxRecDepth 100000 in
set_option maxHeartbeats 4000000 in
theorem S_Judge_resolve_62 {d : Nat} {v1 : Int32} {v2 : Int32} {v3 : Int32} {σ : fkS} {Q : Option Value → fkS → Prop} (h50_1 : σ.2.2 50 1 = 37)
  (h : (¬ (37 : Nat) = 0 ∧
  (vp_in ((3 : Int32) * v1) 12000 ∧
  (¬ (37 : Nat) = 0 ∧
  (vp_in v2 22 ∧
  (vp_in (((3 : Int32) * v1) + (1 : Int32)) 12000 ∧
  (¬ (37 : Nat) = 0 ∧
  (Di d 81 [.ref 50, .int v2] (sI (sI σ 44 (((3 : Int32) * v1).toNatClampNeg) v3) 44 ((((3 : Int32) * v1) + (1 : Int32)).toNatClampNeg) (σ.1 53 v2.toNatClampNeg)) (fun x2 σ1 =>
  ((¬ x2 = 0 →
    (vp_in (((3 : Int32) * v1) + (2 : Int32)) 12000 ∧
    Q none (sI (sW σ1 σ) 44 ((((3 : Int32) * v1) + (2 : Int32)).toNatClampNeg) (0 : Int32)))) ∧
   (x2 = 0 →
    (vp_in v2 22 ∧
    ((¬ ((sW σ1 σ).1 54 v2.toNatClampNeg) = 0 →
      (vp_in (((3 : Int32) * v1) + (2 : Int32)) 12000 ∧
      Q none (sI (sW σ1 σ) 44 ((((3 : Int32) * v1) + (2 : Int32)).toNatClampNeg) (1 : Int32)))) ∧
     (((sW σ1 σ).1 54 v2.toNatClampNeg) = 0 →
      (vp_in (((3 : Int32) * v1) + (2 : Int32)) 12000 ∧
      Q none (sI (sW σ1 σ) 44 ((((3 : Int32) * v1) + (2 : Int32)).toNatClampNeg) (0 : Int32))))))))))))))))) :
  Wq 82 (d + 1) 62 [some (.ref 50), some (.int v1), some (.int v2), some (.int v3)] [] σ Q := by
  rw [← sR_eta h50_1] at h ⊢
  exact fk_run_sound (B := B_Judge_resolve) (C := C_Judge_resolve) (n := 12) ok_Judge_resolve h
def B_Judge_pushGiven : fkB := [(0, [(.iload_n 1, 1, []), (.ifCond .eq 8, 3, [9])]),
  (4, [(.aload_n 0, 1, []), (.iload_n 1, 1, []), (.invokevirtual 164, 3, [76, 1, 1202, 0, 3, 3])]),
  (9, [(.return_, 1, [])])]
set_option maxRecDepth 100000 in
theorem ok_Judge_pushGiven : fk_okM 84 B_Judge_pushGiven = true := by decide +kernel
abbrev C_Judge_pushGiven : fkC := []
set_option maxRecDepth 100000 in
set_option maxHeartbeats 4000000 in
theorem S_Judge_pushGiven {d : Nat} {a0 : Int32} {σ : fkS} {Q : Option Value → fkS → Prop} 
  (h : ((a0 = 0 →
    Q none σ) ∧
   (¬ a0 = 0 →
    (Dv d 76 [.ref 50, .int a0] σ (fun σ1 =>
    Q none (sW σ1 σ)))))) :
  Cl (d + 1) 84 [.ref 50, .int a0] σ Q := by
  exact Cl.run B_Judge_pushGiven C_Judge_pushGiven 6 fk_q84 ok_Judge_pushGiven rfl h
def B_Judge_callOf : fkB := [(0, [(.aload_n 0, 1, []), (.getfield 15, 3, [3, 1, 562, 0]), (.getfield 180, 3, [2, 7, 340, 1]), (.iload_n 1, 1, []), (.laload, 1, []), (.l2i, 1, []), (.istore_n 3, 1, []), (.iload_n 3, 1, []), (.istore 4, 2, []), (.iload_n 2, 1, []), (.bipush 16, 2, []), (.if_icmp .ne 36, 3, [53])]),
  (20, [(.iload_n 3, 1, []), (.ifCond .lt 26, 3, [47])]),
  (24, [(.iload_n 3, 1, []), (.aload_n 0, 1, []), (.getfield 9, 3, [3, 0, 561, 0]), (.getfield 72, 3, [6, 3, 388, 1]), (.if_icmp .ge 15, 3, [47])]),
  (35, [(.aload_n 0, 1, []), (.getfield 9, 3, [3, 0, 561, 0]), (.getfield 79, 3, [6, 4, 392, 1]), (.iload_n 3, 1, []), (.iaload, 1, []), (.goto 4, 3, [48])]),
  (47, [(.iconst (-1), 1, [])]),
  (48, [(.istore 4, 2, []), (.goto 36, 3, [86])]),
  (53, [(.aload_n 0, 1, []), (.aload_n 0, 1, []), (.getfield 130, 3, [3, 3, 564, 0]), (.ifCond .eq 17, 3, [75])]),
  (61, [(.aload_n 0, 1, []), (.getfield 9, 3, [3, 0, 561, 0]), (.getfield 45, 3, [6, 5, 398, 1]), (.ifCond .le 7, 3, [75])]),
  (71, [(.iconst 1, 1, []), (.goto 4, 3, [76])]),
  (75, [(.iconst 0, 1, [])]),
  (76, [(.putfield 130, 3, [3, 3, 564, 0]), (.aload_n 0, 1, []), (.bipush 127, 2, []), (.invokevirtual 161, 3, [73, 1, 1190, 0, 4, 3]), (.pop, 1, [])]),
  (86, [(.iload 4, 2, []), (.ifCond .lt 15, 3, [103])]),
  (91, [(.iload 4, 2, []), (.aload_n 0, 1, []), (.getfield 9, 3, [3, 0, 561, 0]), (.getfield 82, 3, [6, 1, 382, 1]), (.if_icmp .lt 9, 3, [109])]),
  (103, [(.aload_n 0, 1, []), (.iconst 0, 1, []), (.putfield 130, 3, [3, 3, 564, 0]), (.return_, 1, [])]),
  (109, [(.aload_n 0, 1, []), (.getfield 9, 3, [3, 0, 561, 0]), (.iload 4, 2, []), (.invokevirtual 231, 3, [86, 1, 1242, 1, 4, 6]), (.iconst 1, 1, []), (.isub, 1, []), (.istore 5, 2, [])]),
  (122, [(.iload 5, 2, []), (.ifCond .lt 25, 3, [149])]),
  (127, [(.aload_n 0, 1, []), (.aload_n 0, 1, []), (.getfield 9, 3, [3, 0, 561, 0]), (.iload 4, 2, []), (.iload 5, 2, []), (.invokevirtual 234, 3, [87, 2, 1246, 1, 4, 6]), (.invokevirtual 161, 3, [73, 1, 1190, 0, 4, 3]), (.pop, 1, []), (.iinc 5 (-1), 3, []), (.goto (-24), 3, [122])]),
  (149, [(.aload_n 0, 1, []), (.aload_n 0, 1, []), (.getfield 9, 3, [3, 0, 561, 0]), (.iload 4, 2, []), (.invokevirtual 140, 3, [68, 1, 1170, 1, 4, 6]), (.invokevirtual 216, 3, [84, 1, 1234, 0, 3, 3]), (.return_, 1, [])])]
set_option maxRecDepth 100000 in
theorem ok_Judge_callOf : fk_okM 85 B_Judge_callOf = true := by decide +kernel
abbrev C_Judge_callOf : fkC := [(86, [true, false, false, false, true, false]), (122, [true, false, false, false, true, true])]
set_option maxRecDepth 100000 in
set_option maxHeartbeats 4000000 in
theorem S_Judge_callOf {d : Nat} {a0 : Int32} {a1 : Int32} {σ : fkS} {Q : Option Value → fkS → Prop} (h50_1 : σ.2.2 50 1 = 37) (h50_0 : σ.2.2 50 0 = 25)
  (h : (¬ (37 : Nat) = 0 ∧
  (vp_in a0 4000 ∧
  ((¬ a1 = (16 : Int32) →
    (((σ.1 50 3) = 0 →
      (Di d 73 [.ref 50, .int (127 : Int32)] (sI σ 50 3 (0 : Int32)) (fun x2 σ1 =>
      Wq 85 (d + 1) 86 [some (.ref 50), none, none, none, some (.int ((σ.2.1 42 a0.toNatClampNeg).toInt32)), none] [] (sW σ1 σ) Q))) ∧
     (¬ (σ.1 50 3) = 0 →
      (¬ (25 : Nat) = 0 ∧
      (((σ.1 24 5) ≤ 0 →
        (Di d 73 [.ref 50, .int (127 : Int32)] (sI σ 50 3 (0 : Int32)) (fun x4 σ3 =>
        Wq 85 (d + 1) 86 [some (.ref 50), none, none, none, some (.int ((σ.2.1 42 a0.toNatClampNeg).toInt32)), none] [] (sW σ3 σ) Q))) ∧
       (¬ (σ.1 24 5) ≤ 0 →
        (Di d 73 [.ref 50, .int (127 : Int32)] (sI σ 50 3 (1 : Int32)) (fun x6 σ5 =>
        Wq 85 (d + 1) 86 [some (.ref 50), none, none, none, some (.int ((σ.2.1 42 a0.toNatClampNeg).toInt32)), none] [] (sW σ5 σ) Q)))))))) ∧
   (a1 = (16 : Int32) →
    ((((σ.2.1 42 a0.toNatClampNeg).toInt32) < 0 →
      Wq 85 (d + 1) 86 [some (.ref 50), none, none, none, some (.int (-1 : Int32)), none] [] σ Q) ∧
     (¬ ((σ.2.1 42 a0.toNatClampNeg).toInt32) < 0 →
      (¬ (25 : Nat) = 0 ∧
      (((σ.1 24 3) ≤ ((σ.2.1 42 a0.toNatClampNeg).toInt32) →
        Wq 85 (d + 1) 86 [some (.ref 50), none, none, none, some (.int (-1 : Int32)), none] [] σ Q) ∧
       (¬ (σ.1 24 3) ≤ ((σ.2.1 42 a0.toNatClampNeg).toInt32) →
        (¬ (25 : Nat) = 0 ∧
        (vp_in ((σ.2.1 42 a0.toNatClampNeg).toInt32) 60 ∧
        Wq 85 (d + 1) 86 [some (.ref 50), none, none, none, some (.int (σ.1 27 (((σ.2.1 42 a0.toNatClampNeg).toInt32).toNatClampNeg))), none] [] σ Q)))))))))))) :
  Cl (d + 1) 85 [.ref 50, .int a0, .int a1] σ Q := by
  rw [← sR_eta h50_1] at h ⊢
  rw [← sR_eta h50_0] at h ⊢
  exact Cl.run B_Judge_callOf C_Judge_callOf 21 fk_q85 ok_Judge_callOf rfl h
set_option maxRecDepth 100000 in
set_option maxHeartbeats 4000000 in
theorem S_Judge_callOf_86 {d : Nat} {v4 : Int32} {σ : fkS} {Q : Option Value → fkS → Prop} (h50_0 : σ.2.2 50 0 = 25)
  (h : ((v4 < 0 →
    Q none (sI σ 50 3 (0 : Int32))) ∧
   (¬ v4 < 0 →
    (¬ (25 : Nat) = 0 ∧
    ((v4 < (σ.1 24 1) →
      (¬ (25 : Nat) = 0 ∧
      (Di d 86 [.ref 24, .int v4] σ (fun x2 σ1 =>
      Wq 85 (d + 1) 122 [some (.ref 50), none, none, none, some (.int v4), some (.int (x2 - (1 : Int32)))] [] (sW σ1 σ) Q)))) ∧
     (¬ v4 < (σ.1 24 1) →
      Q none (sI σ 50 3 (0 : Int32)))))))) :
  Wq 85 (d + 1) 86 [some (.ref 50), none, none, none, some (.int v4), none] [] σ Q := by
  rw [← sR_eta h50_0] at h ⊢
  exact fk_run_sound (B := B_Judge_callOf) (C := C_Judge_callOf) (n := 21) ok_Judge_callOf h
set_option maxRecDepth 100000 in
set_option maxHeartbeats 4000000 in
theorem S_Judge_callOf_122 {d : Nat} {v4 : Int32} {v5 : Int32} {σ : fkS} {Q : Option Value → fkS → Prop} (h50_0 : σ.2.2 50 0 = 25)
  (h : ((v5 < 0 →
    (¬ (25 : Nat) = 0 ∧
    (Di d 68 [.ref 24, .int v4] σ (fun x2 σ1 =>
    (Dv d 84 [.ref 50, .int x2] (sW σ1 σ) (fun σ3 =>
    Q none (sW σ3 σ))))))) ∧
   (¬ v5 < 0 →
    (¬ (25 : Nat) = 0 ∧
    (Di d 87 [.ref 24, .int v4, .int v5] σ (fun x5 σ4 =>
    (Di d 73 [.ref 50, .int x5] (sW σ4 σ) (fun x7 σ6 =>
    Wq 85 (d + 1) 122 [some (.ref 50), none, none, none, some (.int v4), some (.int (v5 + (-1 : Int32)))] [] (sW σ6 σ) Q)))))))) :
  Wq 85 (d + 1) 122 [some (.ref 50), none, none, none, some (.int v4), some (.int v5)] [] σ Q := by
  rw [← sR_eta h50_0] at h ⊢
  exact fk_run_sound (B := B_Judge_callOf) (C := C_Judge_callOf) (n := 21) ok_Judge_callOf h
def B_Judge_dropOrSelect : fkB := [(0, [(.iload_n 1, 1, []), (.bipush 26, 2, []), (.if_icmp .ne 10, 3, [13])]),
  (6, [(.aload_n 0, 1, []), (.iconst 0, 1, []), (.invokevirtual 161, 3, [73, 1, 1190, 0, 4, 3]), (.pop, 1, []), (.return_, 1, [])]),
  (13, [(.aload_n 0, 1, []), (.bipush 127, 2, []), (.invokevirtual 161, 3, [73, 1, 1190, 0, 4, 3]), (.pop, 1, []), (.aload_n 0, 1, []), (.iconst 0, 1, []), (.invokevirtual 161, 3, [73, 1, 1190, 0, 4, 3]), (.istore_n 2, 1, []), (.aload_n 0, 1, []), (.aload_n 0, 1, []), (.iload_n 2, 1, []), (.invokevirtual 161, 3, [73, 1, 1190, 0, 4, 3]), (.invokevirtual 164, 3, [76, 1, 1202, 0, 3, 3]), (.return_, 1, [])])]
set_option maxRecDepth 100000 in
theorem ok_Judge_dropOrSelect : fk_okM 88 B_Judge_dropOrSelect = true := by decide +kernel
abbrev C_Judge_dropOrSelect : fkC := []
set_option maxRecDepth 100000 in
set_option maxHeartbeats 4000000 in
theorem S_Judge_dropOrSelect {d : Nat} {a0 : Int32} {σ : fkS} {Q : Option Value → fkS → Prop} 
  (h : ((¬ a0 = (26 : Int32) →
    (Di d 73 [.ref 50, .int (127 : Int32)] σ (fun x2 σ1 =>
    (Di d 73 [.ref 50, .int (0 : Int32)] (sW σ1 σ) (fun x4 σ3 =>
    (Di d 73 [.ref 50, .int x4] (sW σ3 σ) (fun x6 σ5 =>
    (Dv d 76 [.ref 50, .int x6] (sW σ5 σ) (fun σ7 =>
    Q none (sW σ7 σ)))))))))) ∧
   (a0 = (26 : Int32) →
    (Di d 73 [.ref 50, .int (0 : Int32)] σ (fun x9 σ8 =>
    Q none (sW σ8 σ)))))) :
  Cl (d + 1) 88 [.ref 50, .int a0] σ Q := by
  exact Cl.run B_Judge_dropOrSelect C_Judge_dropOrSelect 6 fk_q88 ok_Judge_dropOrSelect rfl h
def B_Judge_local : fkB := [(0, [(.aload_n 0, 1, []), (.getfield 9, 3, [3, 0, 561, 0]), (.getfield 79, 3, [6, 4, 392, 1]), (.aload_n 0, 1, []), (.getfield 127, 3, [3, 2, 563, 0]), (.iaload, 1, []), (.istore_n 3, 1, []), (.aload_n 0, 1, []), (.getfield 9, 3, [3, 0, 561, 0]), (.iload_n 3, 1, []), (.invokevirtual 231, 3, [86, 1, 1242, 1, 4, 6]), (.istore 4, 2, []), (.iload_n 1, 1, []), (.ifCond .lt 22, 3, [46])]),
  (27, [(.iload_n 1, 1, []), (.iload 4, 2, []), (.aload_n 0, 1, []), (.getfield 15, 3, [3, 1, 562, 0]), (.getfield 238, 3, [2, 3, 325, 1]), (.aload_n 0, 1, []), (.getfield 127, 3, [3, 2, 563, 0]), (.iaload, 1, []), (.iadd, 1, []), (.if_icmp .lt 9, 3, [52])]),
  (46, [(.aload_n 0, 1, []), (.iconst 0, 1, []), (.putfield 130, 3, [3, 3, 564, 0]), (.return_, 1, [])]),
  (52, [(.iload_n 1, 1, []), (.iload 4, 2, []), (.if_icmp .ge 15, 3, [70])]),
  (58, [(.aload_n 0, 1, []), (.getfield 9, 3, [3, 0, 561, 0]), (.iload_n 3, 1, []), (.iload_n 1, 1, []), (.invokevirtual 234, 3, [87, 2, 1246, 1, 4, 6]), (.goto 23, 3, [90])]),
  (70, [(.aload_n 0, 1, []), (.getfield 15, 3, [3, 1, 562, 0]), (.getfield 241, 3, [2, 4, 328, 1]), (.aload_n 0, 1, []), (.getfield 127, 3, [3, 2, 563, 0]), (.bipush 50, 2, []), (.imul, 1, []), (.iload_n 1, 1, []), (.iadd, 1, []), (.iload 4, 2, []), (.isub, 1, []), (.baload, 1, [])]),
  (90, [(.istore 5, 2, []), (.iload_n 2, 1, []), (.bipush 32, 2, []), (.if_icmp .eq 10, 3, [105])]),
  (98, [(.aload_n 0, 1, []), (.iload 5, 2, []), (.invokevirtual 161, 3, [73, 1, 1190, 0, 4, 3]), (.pop, 1, [])]),
  (105, [(.iload_n 2, 1, []), (.bipush 33, 2, []), (.if_icmp .eq 9, 3, [117])]),
  (111, [(.aload_n 0, 1, []), (.iload 5, 2, []), (.invokevirtual 164, 3, [76, 1, 1202, 0, 3, 3])]),
  (117, [(.return_, 1, [])])]
set_option maxRecDepth 100000 in
theorem ok_Judge_local : fk_okM 89 B_Judge_local = true := by decide +kernel
abbrev C_Judge_local : fkC := [(90, [true, false, true, false, false, false])]
set_option maxRecDepth 100000 in
set_option maxHeartbeats 4000000 in
theorem S_Judge_local {d : Nat} {a0 : Int32} {a1 : Int32} {σ : fkS} {Q : Option Value → fkS → Prop} (h50_0 : σ.2.2 50 0 = 25) (h50_1 : σ.2.2 50 1 = 37)
  (h : (¬ (25 : Nat) = 0 ∧
  (vp_in (σ.1 50 2) 60 ∧
  (¬ (25 : Nat) = 0 ∧
  (Di d 86 [.ref 24, .int (σ.1 27 ((σ.1 50 2).toNatClampNeg))] σ (fun x2 σ1 =>
  ((a0 < 0 →
    Q none (sI (sW σ1 σ) 50 3 (0 : Int32))) ∧
   (¬ a0 < 0 →
    (¬ (37 : Nat) = 0 ∧
    (vp_in ((sW σ1 σ).1 50 2) 60 ∧
    ((a0 < (x2 + ((sW σ1 σ).1 39 (((sW σ1 σ).1 50 2).toNatClampNeg))) →
      ((x2 ≤ a0 →
        (¬ (37 : Nat) = 0 ∧
        (vp_in (((((sW σ1 σ).1 50 2) * (50 : Int32)) + a0) - x2) 3000 ∧
        Wq 89 (d + 1) 90 [some (.ref 50), none, some (.int a1), none, none, none] [.int ((sW σ1 σ).1 40 ((((((sW σ1 σ).1 50 2) * (50 : Int32)) + a0) - x2).toNatClampNeg))] (sW σ1 σ) Q))) ∧
       (¬ x2 ≤ a0 →
        (¬ (25 : Nat) = 0 ∧
        (Di d 87 [.ref 24, .int (σ.1 27 ((σ.1 50 2).toNatClampNeg)), .int a0] (sW σ1 σ) (fun x4 σ3 =>
        Wq 89 (d + 1) 90 [some (.ref 50), none, some (.int a1), none, none, none] [.int x4] (sW σ3 σ) Q)))))) ∧
     (¬ a0 < (x2 + ((sW σ1 σ).1 39 (((sW σ1 σ).1 50 2).toNatClampNeg))) →
      Q none (sI (sW σ1 σ) 50 3 (0 : Int32)))))))))))))) :
  Cl (d + 1) 89 [.ref 50, .int a0, .int a1] σ Q := by
  rw [← sR_eta h50_0] at h ⊢
  rw [← sR_eta h50_1] at h ⊢
  exact Cl.run B_Judge_local C_Judge_local 14 fk_q89 ok_Judge_local rfl h
set_option maxRecDepth 100000 in
set_option maxHeartbeats 4000000 in
theorem S_Judge_local_90 {d : Nat} {v2 : Int32} {s0 : Int32} {σ : fkS} {Q : Option Value → fkS → Prop} 
  (h : ((v2 = (32 : Int32) →
    ((v2 = (33 : Int32) →
      Q none σ) ∧
     (¬ v2 = (33 : Int32) →
      (Dv d 76 [.ref 50, .int s0] σ (fun σ1 =>
      Q none (sW σ1 σ)))))) ∧
   (¬ v2 = (32 : Int32) →
    (Di d 73 [.ref 50, .int s0] σ (fun x3 σ2 =>
    ((v2 = (33 : Int32) →
      Q none (sW σ2 σ)) ∧
     (¬ v2 = (33 : Int32) →
      (Dv d 76 [.ref 50, .int s0] (sW σ2 σ) (fun σ4 =>
      Q none (sW σ4 σ)))))))))) :
  Wq 89 (d + 1) 90 [some (.ref 50), none, some (.int v2), none, none, none] [.int s0] σ Q := by
  exact fk_run_sound (B := B_Judge_local) (C := C_Judge_local) (n := 14) ok_Judge_local h
def B_Judge_globalUse : fkB := [(0, [(.iload_n 1, 1, []), (.ifCond .lt 14, 3, [15])]),
  (4, [(.iload_n 1, 1, []), (.aload_n 0, 1, []), (.getfield 9, 3, [3, 0, 561, 0]), (.getfield 85, 3, [6, 9, 416, 1]), (.if_icmp .lt 11, 3, [23])]),
  (15, [(.aload_n 0, 1, []), (.iconst 0, 1, []), (.putfield 130, 3, [3, 3, 564, 0]), (.goto 76, 3, [96])]),
  (23, [(.iload_n 2, 1, []), (.bipush 35, 2, []), (.if_icmp .ne 21, 3, [47])]),
  (29, [(.aload_n 0, 1, []), (.aload_n 0, 1, []), (.getfield 9, 3, [3, 0, 561, 0]), (.getfield 88, 3, [6, 10, 420, 1]), (.iconst 3, 1, []), (.iload_n 1, 1, []), (.imul, 1, []), (.iaload, 1, []), (.invokevirtual 164, 3, [76, 1, 1202, 0, 3, 3]), (.goto 52, 3, [96])]),
  (47, [(.aload_n 0, 1, []), (.aload_n 0, 1, []), (.getfield 130, 3, [3, 3, 564, 0]), (.ifCond .eq 24, 3, [76])]),
  (55, [(.aload_n 0, 1, []), (.getfield 9, 3, [3, 0, 561, 0]), (.getfield 88, 3, [6, 10, 420, 1]), (.iconst 3, 1, []), (.iload_n 1, 1, []), (.imul, 1, []), (.iconst 1, 1, []), (.iadd, 1, []), (.iaload, 1, []), (.iconst 1, 1, []), (.if_icmp .ne 7, 3, [76])]),
  (72, [(.iconst 1, 1, []), (.goto 4, 3, [77])]),
  (76, [(.iconst 0, 1, [])]),
  (77, [(.putfield 130, 3, [3, 3, 564, 0]), (.aload_n 0, 1, []), (.aload_n 0, 1, []), (.getfield 9, 3, [3, 0, 561, 0]), (.getfield 88, 3, [6, 10, 420, 1]), (.iconst 3, 1, []), (.iload_n 1, 1, []), (.imul, 1, []), (.iaload, 1, []), (.invokevirtual 161, 3, [73, 1, 1190, 0, 4, 3]), (.pop, 1, [])]),
  (96, [(.return_, 1, [])])]
set_option maxRecDepth 100000 in
theorem ok_Judge_globalUse : fk_okM 90 B_Judge_globalUse = true := by decide +kernel
abbrev C_Judge_globalUse : fkC := []
set_option maxRecDepth 100000 in
set_option maxHeartbeats 4000000 in
theorem S_Judge_globalUse {d : Nat} {a0 : Int32} {a1 : Int32} {σ : fkS} {Q : Option Value → fkS → Prop} (h50_0 : σ.2.2 50 0 = 25)
  (h : ((a0 < 0 →
    Q none (sI σ 50 3 (0 : Int32))) ∧
   (¬ a0 < 0 →
    (¬ (25 : Nat) = 0 ∧
    ((a0 < (σ.1 24 9) →
      ((¬ a1 = (35 : Int32) →
        (((σ.1 50 3) = 0 →
          (¬ (25 : Nat) = 0 ∧
          (vp_in ((3 : Int32) * a0) 180 ∧
          (Di d 73 [.ref 50, .int (σ.1 30 (((3 : Int32) * a0).toNatClampNeg))] (sI σ 50 3 (0 : Int32)) (fun x2 σ1 =>
          Q none (sW σ1 σ)))))) ∧
         (¬ (σ.1 50 3) = 0 →
          (¬ (25 : Nat) = 0 ∧
          (vp_in (((3 : Int32) * a0) + (1 : Int32)) 180 ∧
          ((¬ (σ.1 30 ((((3 : Int32) * a0) + (1 : Int32)).toNatClampNeg)) = (1 : Int32) →
            (¬ (25 : Nat) = 0 ∧
            (vp_in ((3 : Int32) * a0) 180 ∧
            (Di d 73 [.ref 50, .int (σ.1 30 (((3 : Int32) * a0).toNatClampNeg))] (sI σ 50 3 (0 : Int32)) (fun x4 σ3 =>
            Q none (sW σ3 σ)))))) ∧
           ((σ.1 30 ((((3 : Int32) * a0) + (1 : Int32)).toNatClampNeg)) = (1 : Int32) →
            (¬ (25 : Nat) = 0 ∧
            (vp_in ((3 : Int32) * a0) 180 ∧
            (Di d 73 [.ref 50, .int (σ.1 30 (((3 : Int32) * a0).toNatClampNeg))] (sI σ 50 3 (1 : Int32)) (fun x6 σ5 =>
            Q none (sW σ5 σ)))))))))))) ∧
       (a1 = (35 : Int32) →
        (¬ (25 : Nat) = 0 ∧
        (vp_in ((3 : Int32) * a0) 180 ∧
        (Dv d 76 [.ref 50, .int (σ.1 30 (((3 : Int32) * a0).toNatClampNeg))] σ (fun σ7 =>
        Q none (sW σ7 σ)))))))) ∧
     (¬ a0 < (σ.1 24 9) →
      Q none (sI σ 50 3 (0 : Int32)))))))) :
  Cl (d + 1) 90 [.ref 50, .int a0, .int a1] σ Q := by
  rw [← sR_eta h50_0] at h ⊢
  exact Cl.run B_Judge_globalUse C_Judge_globalUse 14 fk_q90 ok_Judge_globalUse rfl h
def B_Judge_memoryUse : fkB := [(0, [(.aload_n 0, 1, []), (.aload_n 0, 1, []), (.getfield 130, 3, [3, 3, 564, 0]), (.ifCond .eq 17, 3, [22])]),
  (8, [(.aload_n 0, 1, []), (.getfield 9, 3, [3, 0, 561, 0]), (.getfield 49, 3, [6, 7, 406, 1]), (.ifCond .le 7, 3, [22])]),
  (18, [(.iconst 1, 1, []), (.goto 4, 3, [23])]),
  (22, [(.iconst 0, 1, [])]),
  (23, [(.putfield 130, 3, [3, 3, 564, 0]), (.iload_n 2, 1, []), (.bipush 63, 2, []), (.if_icmp .ne 10, 3, [39])]),
  (32, [(.aload_n 0, 1, []), (.bipush 127, 2, []), (.invokevirtual 164, 3, [76, 1, 1202, 0, 3, 3]), (.return_, 1, [])]),
  (39, [(.iload_n 2, 1, []), (.bipush 64, 2, []), (.if_icmp .ne 17, 3, [59])]),
  (45, [(.aload_n 0, 1, []), (.bipush 127, 2, []), (.invokevirtual 161, 3, [73, 1, 1190, 0, 4, 3]), (.pop, 1, []), (.aload_n 0, 1, []), (.bipush 127, 2, []), (.invokevirtual 164, 3, [76, 1, 1202, 0, 3, 3]), (.return_, 1, [])]),
  (59, [(.aload_n 0, 1, []), (.getfield 15, 3, [3, 1, 562, 0]), (.getfield 204, 3, [2, 8, 344, 1]), (.iload_n 1, 1, []), (.iaload, 1, []), (.istore_n 3, 1, []), (.aload_n 0, 1, []), (.aload_n 0, 1, []), (.getfield 130, 3, [3, 3, 564, 0]), (.ifCond .eq 22, 3, [96])]),
  (77, [(.iload_n 3, 1, []), (.iconst 4, 1, []), (.if_icmp .ge 17, 3, [96])]),
  (82, [(.iconst 1, 1, []), (.iload_n 3, 1, []), (.ishl, 1, []), (.iload_n 2, 1, []), (.invokestatic 244, 3, [92, 1, 1266, 0, 4]), (.if_icmp .gt 7, 3, [96])]),
  (92, [(.iconst 1, 1, []), (.goto 4, 3, [97])]),
  (96, [(.iconst 0, 1, [])]),
  (97, [(.putfield 130, 3, [3, 3, 564, 0]), (.iload_n 2, 1, []), (.bipush 54, 2, []), (.if_icmp .lt 12, 3, [115])]),
  (106, [(.aload_n 0, 1, []), (.iload_n 2, 1, []), (.invokestatic 247, 3, [93, 1, 1269, 0, 4]), (.invokevirtual 161, 3, [73, 1, 1190, 0, 4, 3]), (.pop, 1, [])]),
  (115, [(.aload_n 0, 1, []), (.bipush 127, 2, []), (.invokevirtual 161, 3, [73, 1, 1190, 0, 4, 3]), (.pop, 1, []), (.iload_n 2, 1, []), (.bipush 54, 2, []), (.if_icmp .ge 11, 3, [136])]),
  (128, [(.aload_n 0, 1, []), (.iload_n 2, 1, []), (.invokestatic 247, 3, [93, 1, 1269, 0, 4]), (.invokevirtual 164, 3, [76, 1, 1202, 0, 3, 3])]),
  (136, [(.return_, 1, [])])]
set_option maxRecDepth 100000 in
theorem ok_Judge_memoryUse : fk_okM 91 B_Judge_memoryUse = true := by decide +kernel
abbrev C_Judge_memoryUse : fkC := [(23, [true, true, true, false]), (97, [true, false, true, false])]
set_option maxRecDepth 100000 in
set_option maxHeartbeats 4000000 in
theorem S_Judge_memoryUse {d : Nat} {a0 : Int32} {a1 : Int32} {σ : fkS} {Q : Option Value → fkS → Prop} (h50_0 : σ.2.2 50 0 = 25)
  (h : (((σ.1 50 3) = 0 →
    Wq 91 (d + 1) 23 [some (.ref 50), some (.int a0), some (.int a1), none] [.int (0 : Int32), .ref 50] σ Q) ∧
   (¬ (σ.1 50 3) = 0 →
    (¬ (25 : Nat) = 0 ∧
    (((σ.1 24 7) ≤ 0 →
      Wq 91 (d + 1) 23 [some (.ref 50), some (.int a0), some (.int a1), none] [.int (0 : Int32), .ref 50] σ Q) ∧
     (¬ (σ.1 24 7) ≤ 0 →
      Wq 91 (d + 1) 23 [some (.ref 50), some (.int a0), some (.int a1), none] [.int (1 : Int32), .ref 50] σ Q)))))) :
  Cl (d + 1) 91 [.ref 50, .int a0, .int a1] σ Q := by
  rw [← sR_eta h50_0] at h ⊢
  exact Cl.run B_Judge_memoryUse C_Judge_memoryUse 21 fk_q91 ok_Judge_memoryUse rfl h
set_option maxRecDepth 100000 in
set_option maxHeartbeats 4000000 in
theorem S_Judge_memoryUse_23 {d : Nat} {v1 : Int32} {v2 : Int32} {s1 : Int32} {σ : fkS} {Q : Option Value → fkS → Prop} (h50_1 : σ.2.2 50 1 = 37)
  (h : (fk_bz s1 
  ((¬ v2 = (63 : Int32) →
    ((¬ v2 = (64 : Int32) →
      (¬ (37 : Nat) = 0 ∧
      (vp_in v1 4000 ∧
      ((s1 = 0 →
        Wq 91 (d + 1) 97 [some (.ref 50), none, some (.int v2), none] [.int (0 : Int32), .ref 50] (sI σ 50 3 s1) Q) ∧
       (¬ s1 = 0 →
        (((4 : Int32) ≤ (σ.1 43 v1.toNatClampNeg) →
          Wq 91 (d + 1) 97 [some (.ref 50), none, some (.int v2), none] [.int (0 : Int32), .ref 50] (sI σ 50 3 s1) Q) ∧
         (¬ (4 : Int32) ≤ (σ.1 43 v1.toNatClampNeg) →
          (Di d 92 [.int v2] (sI σ 50 3 s1) (fun x2 σ1 =>
          ((x2 < ((1 : Int32) <<< ((σ.1 43 v1.toNatClampNeg) &&& 31)) →
            Wq 91 (d + 1) 97 [some (.ref 50), none, some (.int v2), none] [.int (0 : Int32), .ref 50] (sW σ1 σ) Q) ∧
           (¬ x2 < ((1 : Int32) <<< ((σ.1 43 v1.toNatClampNeg) &&& 31)) →
            Wq 91 (d + 1) 97 [some (.ref 50), none, some (.int v2), none] [.int (1 : Int32), .ref 50] (sW σ1 σ) Q))))))))))) ∧
     (v2 = (64 : Int32) →
      (Di d 73 [.ref 50, .int (127 : Int32)] (sI σ 50 3 s1) (fun x4 σ3 =>
      (Dv d 76 [.ref 50, .int (127 : Int32)] (sW σ3 σ) (fun σ5 =>
      Q none (sW σ5 σ)))))))) ∧
   (v2 = (63 : Int32) →
    (Dv d 76 [.ref 50, .int (127 : Int32)] (sI σ 50 3 s1) (fun σ6 =>
    Q none (sW σ6 σ))))))) :
  Wq 91 (d + 1) 23 [some (.ref 50), some (.int v1), some (.int v2), none] [.int s1, .ref 50] σ Q := by
  rw [← sR_eta h50_1] at h ⊢
  exact fk_run_sound (B := B_Judge_memoryUse) (C := C_Judge_memoryUse) (n := 21) ok_Judge_memoryUse h
set_option maxRecDepth 100000 in
set_option maxHeartbeats 4000000 in
theorem S_Judge_memoryUse_97 {d : Nat} {v2 : Int32} {s1 : Int32} {σ : fkS} {Q : Option Value → fkS → Prop} 
  (h : (fk_bz s1 
  ((v2 < (54 : Int32) →
    (Di d 73 [.ref 50, .int (127 : Int32)] (sI σ 50 3 s1) (fun x2 σ1 =>
    (((54 : Int32) ≤ v2 →
      Q none (sW σ1 σ)) ∧
     (¬ (54 : Int32) ≤ v2 →
      (Di d 93 [.int v2] (sW σ1 σ) (fun x4 σ3 =>
      (Dv d 76 [.ref 50, .int x4] (sW σ3 σ) (fun σ5 =>
      Q none (sW σ5 σ)))))))))) ∧
   (¬ v2 < (54 : Int32) →
    (Di d 93 [.int v2] (sI σ 50 3 s1) (fun x7 σ6 =>
    (Di d 73 [.ref 50, .int x7] (sW σ6 σ) (fun x9 σ8 =>
    (Di d 73 [.ref 50, .int (127 : Int32)] (sW σ8 σ) (fun x11 σ10 =>
    (((54 : Int32) ≤ v2 →
      Q none (sW σ10 σ)) ∧
     (¬ (54 : Int32) ≤ v2 →
      (Di d 93 [.int v2] (sW σ10 σ) (fun x13 σ12 =>
      (Dv d 76 [.ref 50, .int x13] (sW σ12 σ) (fun σ14 =>
      Q none (sW σ14 σ))))))))))))))))) :
  Wq 91 (d + 1) 97 [some (.ref 50), none, some (.int v2), none] [.int s1, .ref 50] σ Q := by
  exact fk_run_sound (B := B_Judge_memoryUse) (C := C_Judge_memoryUse) (n := 21) ok_Judge_memoryUse h
def B_Judge_width : fkB := [(0, [(.iload_n 0, 1, []), (.tableswitch 106 41 61 #[103, 106, 106, 99, 99, 101, 101, 99, 99, 101, 101, 106, 106, 106, 103, 106, 106, 99, 101, 99, 101], 99, [107, 104, 107, 107, 100, 100, 102, 102, 100, 100, 102, 102, 107, 107, 107, 104, 107, 107, 100, 102, 100, 102])]),
  (100, [(.iconst 1, 1, []), (.ireturn, 1, [])]),
  (102, [(.iconst 2, 1, []), (.ireturn, 1, [])]),
  (104, [(.bipush 8, 2, []), (.ireturn, 1, [])]),
  (107, [(.iconst 4, 1, []), (.ireturn, 1, [])])]
set_option maxRecDepth 100000 in
theorem ok_Judge_width : fk_okM 92 B_Judge_width = true := by decide +kernel
abbrev C_Judge_width : fkC := []
set_option maxRecDepth 100000 in
set_option maxHeartbeats 4000000 in
theorem S_Judge_width {d : Nat} {a0 : Int32} {σ : fkS} {Q : Option Value → fkS → Prop} 
  (h : (((a0.toInt < 41 ∨ 61 < a0.toInt) →
    Q (some (.int (4 : Int32))) σ) ∧
   (a0.toInt = 41 →
    Q (some (.int (8 : Int32))) σ) ∧
   (a0.toInt = 42 →
    Q (some (.int (4 : Int32))) σ) ∧
   (a0.toInt = 43 →
    Q (some (.int (4 : Int32))) σ) ∧
   (a0.toInt = 44 →
    Q (some (.int (1 : Int32))) σ) ∧
   (a0.toInt = 45 →
    Q (some (.int (1 : Int32))) σ) ∧
   (a0.toInt = 46 →
    Q (some (.int (2 : Int32))) σ) ∧
   (a0.toInt = 47 →
    Q (some (.int (2 : Int32))) σ) ∧
   (a0.toInt = 48 →
    Q (some (.int (1 : Int32))) σ) ∧
   (a0.toInt = 49 →
    Q (some (.int (1 : Int32))) σ) ∧
   (a0.toInt = 50 →
    Q (some (.int (2 : Int32))) σ) ∧
   (a0.toInt = 51 →
    Q (some (.int (2 : Int32))) σ) ∧
   (a0.toInt = 52 →
    Q (some (.int (4 : Int32))) σ) ∧
   (a0.toInt = 53 →
    Q (some (.int (4 : Int32))) σ) ∧
   (a0.toInt = 54 →
    Q (some (.int (4 : Int32))) σ) ∧
   (a0.toInt = 55 →
    Q (some (.int (8 : Int32))) σ) ∧
   (a0.toInt = 56 →
    Q (some (.int (4 : Int32))) σ) ∧
   (a0.toInt = 57 →
    Q (some (.int (4 : Int32))) σ) ∧
   (a0.toInt = 58 →
    Q (some (.int (1 : Int32))) σ) ∧
   (a0.toInt = 59 →
    Q (some (.int (2 : Int32))) σ) ∧
   (a0.toInt = 60 →
    Q (some (.int (1 : Int32))) σ) ∧
   (a0.toInt = 61 →
    Q (some (.int (2 : Int32))) σ) ∧ True)) :
  Cl d 92 [.int a0] σ Q := by
  exact Cl.run B_Judge_width C_Judge_width 8 fk_q92 ok_Judge_width rfl h
def B_Judge_accessType : fkB := [(0, [(.iload_n 0, 1, []), (.bipush 40, 2, []), (.if_icmp .eq 33, 3, [36])]),
  (6, [(.iload_n 0, 1, []), (.bipush 44, 2, []), (.if_icmp .lt 9, 3, [18])]),
  (12, [(.iload_n 0, 1, []), (.bipush 47, 2, []), (.if_icmp .le 21, 3, [36])]),
  (18, [(.iload_n 0, 1, []), (.bipush 54, 2, []), (.if_icmp .eq 15, 3, [36])]),
  (24, [(.iload_n 0, 1, []), (.bipush 58, 2, []), (.if_icmp .eq 9, 3, [36])]),
  (30, [(.iload_n 0, 1, []), (.bipush 59, 2, []), (.if_icmp .ne 7, 3, [40])]),
  (36, [(.iconst 1, 1, []), (.goto 4, 3, [41])]),
  (40, [(.iconst 0, 1, [])]),
  (41, [(.istore_n 1, 1, []), (.iload_n 1, 1, []), (.ifCond .eq 8, 3, [51])]),
  (46, [(.bipush 127, 2, []), (.goto 5, 3, [53])]),
  (51, [(.bipush 126, 2, [])]),
  (53, [(.ireturn, 1, [])])]
set_option maxRecDepth 100000 in
theorem ok_Judge_accessType : fk_okM 93 B_Judge_accessType = true := by decide +kernel
abbrev C_Judge_accessType : fkC := [(18, [true, false])]
set_option maxRecDepth 100000 in
set_option maxHeartbeats 4000000 in
theorem S_Judge_accessType {d : Nat} {a0 : Int32} {σ : fkS} {Q : Option Value → fkS → Prop} 
  (h : ((a0 = (40 : Int32) →
    (((1 : Int32) = 0 →
      Q (some (.int (126 : Int32))) σ) ∧
     (¬ (1 : Int32) = 0 →
      Q (some (.int (127 : Int32))) σ))) ∧
   (¬ a0 = (40 : Int32) →
    ((a0 < (44 : Int32) →
      Wq 93 d 18 [some (.int a0), none] [] σ Q) ∧
     (¬ a0 < (44 : Int32) →
      ((a0 ≤ (47 : Int32) →
        (((1 : Int32) = 0 →
          Q (some (.int (126 : Int32))) σ) ∧
         (¬ (1 : Int32) = 0 →
          Q (some (.int (127 : Int32))) σ))) ∧
       (¬ a0 ≤ (47 : Int32) →
        Wq 93 d 18 [some (.int a0), none] [] σ Q))))))) :
  Cl d 93 [.int a0] σ Q := by
  exact Cl.run B_Judge_accessType C_Judge_accessType 15 fk_q93 ok_Judge_accessType rfl h
set_option maxRecDepth 100000 in
set_option maxHeartbeats 4000000 in
theorem S_Judge_accessType_18 {d : Nat} {v0 : Int32} {σ : fkS} {Q : Option Value → fkS → Prop} 
  (h : ((v0 = (54 : Int32) →
    (((1 : Int32) = 0 →
      Q (some (.int (126 : Int32))) σ) ∧
     (¬ (1 : Int32) = 0 →
      Q (some (.int (127 : Int32))) σ))) ∧
   (¬ v0 = (54 : Int32) →
    ((v0 = (58 : Int32) →
      (((1 : Int32) = 0 →
        Q (some (.int (126 : Int32))) σ) ∧
       (¬ (1 : Int32) = 0 →
        Q (some (.int (127 : Int32))) σ))) ∧
     (¬ v0 = (58 : Int32) →
      ((¬ v0 = (59 : Int32) →
        (((0 : Int32) = 0 →
          Q (some (.int (126 : Int32))) σ) ∧
         (¬ (0 : Int32) = 0 →
          Q (some (.int (127 : Int32))) σ))) ∧
       (v0 = (59 : Int32) →
        (((1 : Int32) = 0 →
          Q (some (.int (126 : Int32))) σ) ∧
         (¬ (1 : Int32) = 0 →
          Q (some (.int (127 : Int32))) σ))))))))) :
  Wq 93 d 18 [some (.int v0), none] [] σ Q := by
  exact fk_run_sound (B := B_Judge_accessType) (C := C_Judge_accessType) (n := 15) ok_Judge_accessType h
def B_Judge_number : fkB := [(0, [(.iload_n 1, 1, []), (.sipush 167, 3, []), (.if_icmp .ne 15, 3, [19])]),
  (7, [(.aload_n 0, 1, []), (.bipush 126, 2, []), (.iconst 1, 1, []), (.bipush 127, 2, []), (.invokevirtual 250, 3, [95, 3, 1276, 0, 3, 3]), (.goto 125, 3, [141])]),
  (19, [(.iload_n 1, 1, []), (.sipush 172, 3, []), (.if_icmp .lt 15, 3, [38])]),
  (26, [(.aload_n 0, 1, []), (.bipush 127, 2, []), (.iconst 1, 1, []), (.bipush 126, 2, []), (.invokevirtual 250, 3, [95, 3, 1276, 0, 3, 3]), (.goto 106, 3, [141])]),
  (38, [(.iload_n 1, 1, []), (.bipush 79, 2, []), (.if_icmp .gt 25, 3, [66])]),
  (44, [(.aload_n 0, 1, []), (.bipush 127, 2, []), (.iload_n 1, 1, []), (.bipush 69, 2, []), (.if_icmp .ne 7, 3, [57])]),
  (53, [(.iconst 1, 1, []), (.goto 4, 3, [58])]),
  (57, [(.iconst 2, 1, [])]),
  (58, [(.bipush 127, 2, []), (.invokevirtual 250, 3, [95, 3, 1276, 0, 3, 3]), (.goto 78, 3, [141])]),
  (66, [(.iload_n 1, 1, []), (.bipush 90, 2, []), (.if_icmp .gt 25, 3, [94])]),
  (72, [(.aload_n 0, 1, []), (.bipush 126, 2, []), (.iload_n 1, 1, []), (.bipush 80, 2, []), (.if_icmp .ne 7, 3, [85])]),
  (81, [(.iconst 1, 1, []), (.goto 4, 3, [86])]),
  (85, [(.iconst 2, 1, [])]),
  (86, [(.bipush 127, 2, []), (.invokevirtual 250, 3, [95, 3, 1276, 0, 3, 3]), (.goto 50, 3, [141])]),
  (94, [(.iload_n 1, 1, []), (.bipush 120, 2, []), (.if_icmp .gt 25, 3, [122])]),
  (100, [(.aload_n 0, 1, []), (.bipush 127, 2, []), (.iload_n 1, 1, []), (.bipush 105, 2, []), (.if_icmp .gt 7, 3, [113])]),
  (109, [(.iconst 1, 1, []), (.goto 4, 3, [114])]),
  (113, [(.iconst 2, 1, [])]),
  (114, [(.bipush 127, 2, []), (.invokevirtual 250, 3, [95, 3, 1276, 0, 3, 3]), (.goto 22, 3, [141])]),
  (122, [(.aload_n 0, 1, []), (.bipush 126, 2, []), (.iload_n 1, 1, []), (.bipush 123, 2, []), (.if_icmp .gt 7, 3, [135])]),
  (131, [(.iconst 1, 1, []), (.goto 4, 3, [136])]),
  (135, [(.iconst 2, 1, [])]),
  (136, [(.bipush 126, 2, []), (.invokevirtual 250, 3, [95, 3, 1276, 0, 3, 3])]),
  (141, [(.return_, 1, [])])]
set_option maxRecDepth 100000 in
theorem ok_Judge_number : fk_okM 94 B_Judge_number = true := by decide +kernel
abbrev C_Judge_number : fkC := []
set_option maxRecDepth 100000 in
set_option maxHeartbeats 4000000 in
theorem S_Judge_number {d : Nat} {a0 : Int32} {σ : fkS} {Q : Option Value → fkS → Prop} 
  (h : ((¬ a0 = (167 : Int32) →
    ((a0 < (172 : Int32) →
      (((79 : Int32) < a0 →
        (((90 : Int32) < a0 →
          (((120 : Int32) < a0 →
            (((123 : Int32) < a0 →
              (Dv d 95 [.ref 50, .int (126 : Int32), .int (2 : Int32), .int (126 : Int32)] σ (fun σ1 =>
              Q none (sW σ1 σ)))) ∧
             (¬ (123 : Int32) < a0 →
              (Dv d 95 [.ref 50, .int (126 : Int32), .int (1 : Int32), .int (126 : Int32)] σ (fun σ2 =>
              Q none (sW σ2 σ)))))) ∧
           (¬ (120 : Int32) < a0 →
            (((105 : Int32) < a0 →
              (Dv d 95 [.ref 50, .int (127 : Int32), .int (2 : Int32), .int (127 : Int32)] σ (fun σ3 =>
              Q none (sW σ3 σ)))) ∧
             (¬ (105 : Int32) < a0 →
              (Dv d 95 [.ref 50, .int (127 : Int32), .int (1 : Int32), .int (127 : Int32)] σ (fun σ4 =>
              Q none (sW σ4 σ)))))))) ∧
         (¬ (90 : Int32) < a0 →
          ((¬ a0 = (80 : Int32) →
            (Dv d 95 [.ref 50, .int (126 : Int32), .int (2 : Int32), .int (127 : Int32)] σ (fun σ5 =>
            Q none (sW σ5 σ)))) ∧
           (a0 = (80 : Int32) →
            (Dv d 95 [.ref 50, .int (126 : Int32), .int (1 : Int32), .int (127 : Int32)] σ (fun σ6 =>
            Q none (sW σ6 σ)))))))) ∧
       (¬ (79 : Int32) < a0 →
        ((¬ a0 = (69 : Int32) →
          (Dv d 95 [.ref 50, .int (127 : Int32), .int (2 : Int32), .int (127 : Int32)] σ (fun σ7 =>
          Q none (sW σ7 σ)))) ∧
         (a0 = (69 : Int32) →
          (Dv d 95 [.ref 50, .int (127 : Int32), .int (1 : Int32), .int (127 : Int32)] σ (fun σ8 =>
          Q none (sW σ8 σ)))))))) ∧
     (¬ a0 < (172 : Int32) →
      (Dv d 95 [.ref 50, .int (127 : Int32), .int (1 : Int32), .int (126 : Int32)] σ (fun σ9 =>
      Q none (sW σ9 σ)))))) ∧
   (a0 = (167 : Int32) →
    (Dv d 95 [.ref 50, .int (126 : Int32), .int (1 : Int32), .int (127 : Int32)] σ (fun σ10 =>
    Q none (sW σ10 σ)))))) :
  Cl (d + 1) 94 [.ref 50, .int a0] σ Q := by
  exact Cl.run B_Judge_number C_Judge_number 27 fk_q94 ok_Judge_number rfl h
def B_Judge_turn : fkB := [(0, [(.iconst 0, 1, []), (.istore 4, 2, [])]),
  (3, [(.iload 4, 2, []), (.iload_n 2, 1, []), (.if_icmp .ge 15, 3, [21])]),
  (9, [(.aload_n 0, 1, []), (.iload_n 1, 1, []), (.invokevirtual 161, 3, [73, 1, 1190, 0, 4, 3]), (.pop, 1, []), (.iinc 4 1, 3, []), (.goto (-15), 3, [3])]),
  (21, [(.aload_n 0, 1, []), (.iload_n 3, 1, []), (.invokevirtual 164, 3, [76, 1, 1202, 0, 3, 3]), (.return_, 1, [])])]
set_option maxRecDepth 100000 in
theorem ok_Judge_turn : fk_okM 95 B_Judge_turn = true := by decide +kernel
abbrev C_Judge_turn : fkC := [(3, [true, true, true, true, true])]
set_option maxRecDepth 100000 in
set_option maxHeartbeats 4000000 in
theorem S_Judge_turn {d : Nat} {a0 : Int32} {a1 : Int32} {a2 : Int32} {σ : fkS} {Q : Option Value → fkS → Prop} 
  (h : Wq 95 (d + 1) 3 [some (.ref 50), some (.int a0), some (.int a1), some (.int a2), some (.int (0 : Int32))] [] σ Q) :
  Cl (d + 1) 95 [.ref 50, .int a0, .int a1, .int a2] σ Q := by
  exact Cl.run B_Judge_turn C_Judge_turn 7 fk_q95 ok_Judge_turn rfl h
set_option maxRecDepth 100000 in
set_option maxHeartbeats 4000000 in
theorem S_Judge_turn_3 {d : Nat} {v1 : Int32} {v2 : Int32} {v3 : Int32} {v4 : Int32} {σ : fkS} {Q : Option Value → fkS → Prop} 
  (h : ((v2 ≤ v4 →
    (Dv d 76 [.ref 50, .int v3] σ (fun σ1 =>
    Q none (sW σ1 σ)))) ∧
   (¬ v2 ≤ v4 →
    (Di d 73 [.ref 50, .int v1] σ (fun x3 σ2 =>
    Wq 95 (d + 1) 3 [some (.ref 50), some (.int v1), some (.int v2), some (.int v3), some (.int (v4 + (1 : Int32)))] [] (sW σ2 σ) Q))))) :
  Wq 95 (d + 1) 3 [some (.ref 50), some (.int v1), some (.int v2), some (.int v3), some (.int v4)] [] σ Q := by
  exact fk_run_sound (B := B_Judge_turn) (C := C_Judge_turn) (n := 7) ok_Judge_turn h
