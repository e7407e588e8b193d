/-! THE WALKS of the methods as predicates, by program (wip/whole/gen/gen_S.py). Cells: wip/whole/gen/cells.py prints them. -/
-- not here: X_<init>
def B_X_feed : fkB := [(0, [(.aload_n 0, 1, []), (.getfield 13, 3, [11, 1, 878, 0]), (.bipush 20, 2, []), (.iadd, 1, []), (.sipush 4000, 3, []), (.if_icmp .le 5, 3, [15])]),
  (13, [(.iconst (-1), 1, []), (.ireturn, 1, [])]),
  (15, [(.aload_n 0, 1, []), (.iload_n 1, 1, []), (.invokevirtual 100, 3, [14, 1, 936, 0, 3, 11]), (.aload_n 0, 1, []), (.iload_n 2, 1, []), (.invokevirtual 100, 3, [14, 1, 936, 0, 3, 11]), (.aload_n 0, 1, []), (.iload_n 3, 1, []), (.invokevirtual 100, 3, [14, 1, 936, 0, 3, 11]), (.aload_n 0, 1, []), (.iload 4, 2, []), (.invokevirtual 100, 3, [14, 1, 936, 0, 3, 11]), (.aload_n 0, 1, []), (.iload 5, 2, []), (.invokevirtual 100, 3, [14, 1, 936, 0, 3, 11]), (.aload_n 0, 1, []), (.getfield 13, 3, [11, 1, 878, 0]), (.ireturn, 1, [])])]
set_option maxRecDepth 100000 in
theorem ok_X_feed : fk_okM 13 B_X_feed = true := by decide +kernel
abbrev C_X_feed : fkC := []
set_option maxRecDepth 100000 in
set_option maxHeartbeats 4000000 in
theorem S_X_feed {d : Nat} {a0 : Int32} {a1 : Int32} {a2 : Int32} {a3 : Int32} {a4 : Int32} {σ : fkS} {Q : Option Value → fkS → Prop} 
  (h : ((((σ.1 0 1) + (20 : Int32)) ≤ (4000 : Int32) →
    (Dv d 14 [.ref 0, .int a0] σ (fun σ1 =>
    (Dv d 14 [.ref 0, .int a1] (sW σ1 σ) (fun σ2 =>
    (Dv d 14 [.ref 0, .int a2] (sW σ2 σ) (fun σ3 =>
    (Dv d 14 [.ref 0, .int a3] (sW σ3 σ) (fun σ4 =>
    (Dv d 14 [.ref 0, .int a4] (sW σ4 σ) (fun σ5 =>
    Q (some (.int ((sW σ5 σ).1 0 1))) (sW σ5 σ)))))))))))) ∧
   (¬ ((σ.1 0 1) + (20 : Int32)) ≤ (4000 : Int32) →
    Q (some (.int (-1 : Int32))) σ))) :
  Cl (d + 1) 13 [.ref 0, .int a0, .int a1, .int a2, .int a3, .int a4] σ Q := by
  exact Cl.run B_X_feed C_X_feed 6 fk_q13 ok_X_feed rfl h
def B_X_putOnTape : fkB := [(0, [(.bipush 24, 2, []), (.istore_n 2, 1, [])]),
  (3, [(.iload_n 2, 1, []), (.ifCond .lt 42, 3, [46])]),
  (7, [(.aload_n 0, 1, []), (.getfield 13, 3, [11, 1, 878, 0]), (.sipush 4000, 3, []), (.if_icmp .ge 32, 3, [46])]),
  (17, [(.aload_n 0, 1, []), (.getfield 9, 3, [11, 0, 877, 0]), (.aload_n 0, 1, []), (.getfield 13, 3, [11, 1, 878, 0]), (.iload_n 1, 1, []), (.iload_n 2, 1, []), (.iushr, 1, []), (.i2b, 1, []), (.bastore, 1, []), (.aload_n 0, 1, []), (.dup, 1, []), (.getfield 13, 3, [11, 1, 878, 0]), (.iconst 1, 1, []), (.iadd, 1, []), (.putfield 13, 3, [11, 1, 878, 0]), (.iinc 2 (-8), 3, []), (.goto (-40), 3, [3])]),
  (46, [(.return_, 1, [])])]
set_option maxRecDepth 100000 in
theorem ok_X_putOnTape : fk_okM 14 B_X_putOnTape = true := by decide +kernel
abbrev C_X_putOnTape : fkC := [(3, [true, true, true])]
set_option maxRecDepth 100000 in
set_option maxHeartbeats 4000000 in
theorem S_X_putOnTape {d : Nat} {a0 : Int32} {σ : fkS} {Q : Option Value → fkS → Prop} 
  (h : Wq 14 d 3 [some (.ref 0), some (.int a0), some (.int (24 : Int32))] [] σ Q) :
  Cl d 14 [.ref 0, .int a0] σ Q := by
  exact Cl.run B_X_putOnTape C_X_putOnTape 8 fk_q14 ok_X_putOnTape rfl h
set_option maxRecDepth 100000 in
set_option maxHeartbeats 4000000 in
theorem S_X_putOnTape_3 {d : Nat} {v1 : Int32} {v2 : Int32} {σ : fkS} {Q : Option Value → fkS → Prop} 
  (h : ((v2 < 0 →
    Q none σ) ∧
   (¬ v2 < 0 →
    (((4000 : Int32) ≤ (σ.1 0 1) →
      Q none σ) ∧
     (¬ (4000 : Int32) ≤ (σ.1 0 1) →
      (vp_in (σ.1 0 1) 4000 ∧
      Wq 14 d 3 [some (.ref 0), some (.int v1), some (.int (v2 + (-8 : Int32)))] [] (sI (sI σ 1 ((σ.1 0 1).toNatClampNeg) (((fk_ushr v1 v2).toInt8.toInt32).toInt8.toInt32)) 0 1 ((σ.1 0 1) + (1 : Int32))) Q)))))) :
  Wq 14 d 3 [some (.ref 0), some (.int v1), some (.int v2)] [] σ Q := by
  exact fk_run_sound (B := B_X_putOnTape) (C := C_X_putOnTape) (n := 8) ok_X_putOnTape h
def B_X_module : fkB := [(0, [(.iload_n 1, 1, []), (.ifCond .lt 11, 3, [12])]),
  (4, [(.iload_n 1, 1, []), (.aload_n 0, 1, []), (.getfield 13, 3, [11, 1, 878, 0]), (.if_icmp .le 5, 3, [14])]),
  (12, [(.iconst 0, 1, []), (.ireturn, 1, [])]),
  (14, [(.aload_n 0, 1, []), (.iconst 0, 1, []), (.putfield 13, 3, [11, 1, 878, 0]), (.aload_n 0, 1, []), (.getfield 41, 3, [11, 7, 884, 0]), (.aload_n 0, 1, []), (.getfield 28, 3, [11, 4, 881, 0]), (.aload_n 0, 1, []), (.getfield 9, 3, [11, 0, 877, 0]), (.iload_n 1, 1, []), (.invokevirtual 104, 3, [16, 3, 944, 1, 0, 5])]),
  (35, [(.aload_n 0, 1, []), (.aload_n 0, 1, []), (.getfield 41, 3, [11, 7, 884, 0]), (.getfield 108, 3, [5, 0, 545, 1]), (.getfield 112, 3, [10, 4, 519, 1]), (.putfield 35, 3, [11, 6, 883, 0]), (.aload_n 0, 1, []), (.getfield 41, 3, [11, 7, 884, 0]), (.getfield 108, 3, [5, 0, 545, 1]), (.getfield 117, 3, [10, 3, 517, 1]), (.ifCond .eq 14, 3, [73])]),
  (62, [(.aload_n 0, 1, []), (.getfield 41, 3, [11, 7, 884, 0]), (.getfield 108, 3, [5, 0, 545, 1]), (.getfield 117, 3, [10, 3, 517, 1]), (.ireturn, 1, [])]),
  (73, [(.aload_n 0, 1, []), (.getfield 48, 3, [11, 8, 885, 0]), (.aload_n 0, 1, []), (.getfield 28, 3, [11, 4, 881, 0]), (.invokevirtual 120, 3, [57, 1, 1126, 1, 1, 3])]),
  (84, [(.istore_n 2, 1, []), (.iload_n 2, 1, []), (.ifCond .eq 5, 3, [91])]),
  (89, [(.iload_n 2, 1, []), (.ireturn, 1, [])]),
  (91, [(.aload_n 0, 1, []), (.getfield 55, 3, [11, 9, 886, 0]), (.aload_n 0, 1, []), (.getfield 28, 3, [11, 4, 881, 0]), (.invokevirtual 124, 3, [96, 1, 1280, 1, 1, 4])]),
  (102, [(.ifCond .ne 6, 3, [108])]),
  (105, [(.bipush (-4), 2, []), (.ireturn, 1, [])]),
  (108, [(.aload_n 0, 1, []), (.getfield 24, 3, [11, 3, 880, 0]), (.astore_n 3, 1, []), (.aload_n 0, 1, []), (.aload_n 0, 1, []), (.getfield 28, 3, [11, 4, 881, 0]), (.putfield 24, 3, [11, 3, 880, 0]), (.aload_n 0, 1, []), (.aload_n 3, 1, []), (.putfield 28, 3, [11, 4, 881, 0]), (.aload_n 0, 1, []), (.iconst 1, 1, []), (.putfield 31, 3, [11, 5, 882, 0]), (.iconst 1, 1, []), (.ireturn, 1, [])])]
set_option maxRecDepth 100000 in
theorem ok_X_module : fk_okM 15 B_X_module = true := by decide +kernel
abbrev C_X_module : fkC := [(35, [true, false, false, false]), (84, [true, false, false, false]), (102, [true, false, false, false])]
set_option maxRecDepth 100000 in
set_option maxHeartbeats 4000000 in
theorem S_X_module {d : Nat} {a0 : Int32} {σ : fkS} {Q : Option Value → fkS → Prop} (h0_4 : σ.2.2 0 4 = 25)
  (h : ((a0 < 0 →
    Q (some (.int (0 : Int32))) σ) ∧
   (¬ a0 < 0 →
    ((a0 ≤ (σ.1 0 1) →
      (¬ (25 : Nat) = 0 ∧
      (Cv d 16 [.ref 45, .ref 24, .ref 1, .int a0] (sI σ 0 1 (0 : Int32)) (fun σ1 =>
      Wq 15 (d + 1) 35 [some (.ref 0), none, none, none] [] σ1 Q)))) ∧
     (¬ a0 ≤ (σ.1 0 1) →
      Q (some (.int (0 : Int32))) σ))))) :
  Cl (d + 1) 15 [.ref 0, .int a0] σ Q := by
  rw [← sR_eta h0_4] at h ⊢
  exact Cl.run B_X_module C_X_module 13 fk_q15 ok_X_module rfl h
set_option maxRecDepth 100000 in
set_option maxHeartbeats 4000000 in
theorem S_X_module_35 {d : Nat}  {σ : fkS} {Q : Option Value → fkS → Prop} (h0_4 : σ.2.2 0 4 = 25)
  (h : (((σ.1 46 3) = 0 →
    (¬ (25 : Nat) = 0 ∧
    (Ci d 57 [.ref 50, .ref 24] (sI σ 0 6 (σ.1 46 4)) (fun x2 σ1 =>
    Wq 15 (d + 1) 84 [some (.ref 0), none, none, none] [.int x2] σ1 Q)))) ∧
   (¬ (σ.1 46 3) = 0 →
    Q (some (.int (σ.1 46 3))) (sI σ 0 6 (σ.1 46 4))))) :
  Wq 15 (d + 1) 35 [some (.ref 0), none, none, none] [] σ Q := by
  rw [← sR_eta h0_4] at h ⊢
  exact fk_run_sound (B := B_X_module) (C := C_X_module) (n := 13) ok_X_module h
set_option maxRecDepth 100000 in
set_option maxHeartbeats 4000000 in
theorem S_X_module_84 {d : Nat} {s0 : Int32} {σ : fkS} {Q : Option Value → fkS → Prop} (h0_4 : σ.2.2 0 4 = 25)
  (h : ((s0 = 0 →
    (¬ (25 : Nat) = 0 ∧
    (Ci d 96 [.ref 56, .ref 24] σ (fun x2 σ1 =>
    Wq 15 (d + 1) 102 [some (.ref 0), none, none, none] [.int x2] σ1 Q)))) ∧
   (¬ s0 = 0 →
    Q (some (.int s0)) σ))) :
  Wq 15 (d + 1) 84 [some (.ref 0), none, none, none] [.int s0] σ Q := by
  rw [← sR_eta h0_4] at h ⊢
  exact fk_run_sound (B := B_X_module) (C := C_X_module) (n := 13) ok_X_module h
set_option maxRecDepth 100000 in
set_option maxHeartbeats 4000000 in
theorem S_X_module_102 {d : Nat} {s0 : Int32} {σ : fkS} {Q : Option Value → fkS → Prop} (h0_3 : σ.2.2 0 3 = 4) (h0_4 : σ.2.2 0 4 = 25)
  (h : ((¬ s0 = 0 →
    (¬ (4 : Nat) = 0 ∧
    (¬ (25 : Nat) = 0 ∧
    Q (some (.int (1 : Int32))) (sI (sR (sR σ 0 3 25) 0 4 4) 0 5 (1 : Int32))))) ∧
   (s0 = 0 →
    Q (some (.int (-4 : Int32))) σ))) :
  Wq 15 (d + 1) 102 [some (.ref 0), none, none, none] [.int s0] σ Q := by
  rw [← sR_eta h0_3] at h ⊢
  rw [← sR_eta h0_4] at h ⊢
  exact fk_run_sound (B := B_X_module) (C := C_X_module) (n := 13) ok_X_module h
def B_X_place : fkB := [(0, [(.aload_n 0, 1, []), (.getfield 35, 3, [11, 6, 883, 0]), (.ireturn, 1, [])])]
set_option maxRecDepth 100000 in
theorem ok_X_place : fk_okM 99 B_X_place = true := by decide +kernel
abbrev C_X_place : fkC := []
set_option maxRecDepth 100000 in
set_option maxHeartbeats 4000000 in
theorem S_X_place {d : Nat}  {σ : fkS} {Q : Option Value → fkS → Prop} 
  (h : Q (some (.int (σ.1 0 6))) σ) :
  Cl d 99 [.ref 0] σ Q := by
  exact Cl.run B_X_place C_X_place 4 fk_q99 ok_X_place rfl h
def B_X_count : fkB := [(0, [(.aload_n 0, 1, []), (.getfield 31, 3, [11, 5, 882, 0]), (.ifCond .ne 5, 3, [9])]),
  (7, [(.iconst (-1), 1, []), (.ireturn, 1, [])]),
  (9, [(.iload_n 1, 1, []), (.tableswitch 114 0 5 #[38, 46, 54, 76, 98, 106], 38, [124, 48, 56, 64, 86, 108, 116])]),
  (48, [(.aload_n 0, 1, []), (.getfield 24, 3, [11, 3, 880, 0]), (.getfield 128, 3, [6, 1, 384, 1]), (.ireturn, 1, [])]),
  (56, [(.aload_n 0, 1, []), (.getfield 24, 3, [11, 3, 880, 0]), (.getfield 131, 3, [6, 3, 390, 1]), (.ireturn, 1, [])]),
  (64, [(.aload_n 0, 1, []), (.getfield 24, 3, [11, 3, 880, 0]), (.getfield 134, 3, [6, 5, 400, 1]), (.ifCond .le 13, 3, [84])]),
  (74, [(.aload_n 0, 1, []), (.getfield 55, 3, [11, 9, 886, 0]), (.getfield 137, 3, [4, 6, 612, 1]), (.goto 4, 3, [85])]),
  (84, [(.iconst (-1), 1, [])]),
  (85, [(.ireturn, 1, [])]),
  (86, [(.aload_n 0, 1, []), (.getfield 24, 3, [11, 3, 880, 0]), (.getfield 140, 3, [6, 7, 409, 1]), (.ifCond .le 13, 3, [106])]),
  (96, [(.aload_n 0, 1, []), (.getfield 55, 3, [11, 9, 886, 0]), (.getfield 143, 3, [4, 4, 608, 1]), (.goto 4, 3, [107])]),
  (106, [(.iconst (-1), 1, [])]),
  (107, [(.ireturn, 1, [])]),
  (108, [(.aload_n 0, 1, []), (.getfield 24, 3, [11, 3, 880, 0]), (.getfield 146, 3, [6, 9, 417, 1]), (.ireturn, 1, [])]),
  (116, [(.aload_n 0, 1, []), (.getfield 24, 3, [11, 3, 880, 0]), (.getfield 149, 3, [6, 12, 427, 1]), (.ireturn, 1, [])]),
  (124, [(.iconst (-1), 1, []), (.ireturn, 1, [])])]
set_option maxRecDepth 100000 in
theorem ok_X_count : fk_okM 100 B_X_count = true := by decide +kernel
abbrev C_X_count : fkC := []
set_option maxRecDepth 100000 in
set_option maxHeartbeats 4000000 in
theorem S_X_count {d : Nat} {a0 : Int32} {σ : fkS} {Q : Option Value → fkS → Prop} (h0_3 : σ.2.2 0 3 = 4)
  (h : ((¬ (σ.1 0 5) = 0 →
    (((a0.toInt < 0 ∨ 5 < a0.toInt) →
      Q (some (.int (-1 : Int32))) σ) ∧
     (a0.toInt = 0 →
      (¬ (4 : Nat) = 0 ∧
      Q (some (.int (σ.1 3 1))) σ)) ∧
     (a0.toInt = 1 →
      (¬ (4 : Nat) = 0 ∧
      Q (some (.int (σ.1 3 3))) σ)) ∧
     (a0.toInt = 2 →
      (¬ (4 : Nat) = 0 ∧
      (((σ.1 3 5) ≤ 0 →
        Q (some (.int (-1 : Int32))) σ) ∧
       (¬ (σ.1 3 5) ≤ 0 →
        Q (some (.int (σ.1 56 6))) σ)))) ∧
     (a0.toInt = 3 →
      (¬ (4 : Nat) = 0 ∧
      (((σ.1 3 7) ≤ 0 →
        Q (some (.int (-1 : Int32))) σ) ∧
       (¬ (σ.1 3 7) ≤ 0 →
        Q (some (.int (σ.1 56 4))) σ)))) ∧
     (a0.toInt = 4 →
      (¬ (4 : Nat) = 0 ∧
      Q (some (.int (σ.1 3 9))) σ)) ∧
     (a0.toInt = 5 →
      (¬ (4 : Nat) = 0 ∧
      Q (some (.int (σ.1 3 12))) σ)) ∧ True)) ∧
   ((σ.1 0 5) = 0 →
    Q (some (.int (-1 : Int32))) σ))) :
  Cl d 100 [.ref 0, .int a0] σ Q := by
  rw [← sR_eta h0_3] at h ⊢
  exact Cl.run B_X_count C_X_count 19 fk_q100 ok_X_count rfl h
def B_X_export : fkB := [(0, [(.aload_n 0, 1, []), (.getfield 31, 3, [11, 5, 882, 0]), (.ifCond .eq 24, 3, [28])]),
  (7, [(.iload_n 1, 1, []), (.ifCond .lt 20, 3, [28])]),
  (11, [(.iload_n 1, 1, []), (.aload_n 0, 1, []), (.getfield 24, 3, [11, 3, 880, 0]), (.getfield 149, 3, [6, 12, 427, 1]), (.if_icmp .ge 9, 3, [28])]),
  (22, [(.iload_n 2, 1, []), (.bipush (-2), 2, []), (.if_icmp .ge 6, 3, [31])]),
  (28, [(.bipush (-9), 2, []), (.ireturn, 1, [])]),
  (31, [(.aload_n 0, 1, []), (.getfield 24, 3, [11, 3, 880, 0]), (.iload_n 1, 1, []), (.invokevirtual 152, 3, [63, 1, 1304, 1, 4, 6]), (.istore_n 3, 1, []), (.aload_n 0, 1, []), (.getfield 24, 3, [11, 3, 880, 0]), (.iload_n 1, 1, []), (.invokevirtual 156, 3, [62, 1, 1305, 1, 4, 6]), (.istore 4, 2, []), (.iload_n 2, 1, []), (.ifCond .ge 20, 3, [71])]),
  (54, [(.iload_n 3, 1, []), (.ifCond .eq 8, 3, [63])]),
  (58, [(.bipush (-9), 2, []), (.goto 10, 3, [70])]),
  (63, [(.aload_n 0, 1, []), (.iload 4, 2, []), (.iload_n 2, 1, []), (.invokevirtual 159, 3, [102, 2, 1306, 0, 4, 11])]),
  (70, [(.ireturn, 1, [])]),
  (71, [(.iload_n 2, 1, []), (.ifCond .ne 5, 3, [77])]),
  (75, [(.iload_n 3, 1, []), (.ireturn, 1, [])]),
  (77, [(.iload_n 2, 1, []), (.iconst 1, 1, []), (.if_icmp .ne 6, 3, [85])]),
  (82, [(.iload 4, 2, []), (.ireturn, 1, [])]),
  (85, [(.aload_n 0, 1, []), (.getfield 24, 3, [11, 3, 880, 0]), (.getfield 163, 3, [6, 13, 430, 1]), (.iconst 4, 1, []), (.iload_n 1, 1, []), (.imul, 1, []), (.iconst 1, 1, []), (.iadd, 1, []), (.iaload, 1, []), (.istore 5, 2, []), (.iload_n 2, 1, []), (.iconst 2, 1, []), (.if_icmp .ne 6, 3, [108])]),
  (105, [(.iload 5, 2, []), (.ireturn, 1, [])]),
  (108, [(.aload_n 0, 1, []), (.getfield 24, 3, [11, 3, 880, 0]), (.getfield 163, 3, [6, 13, 430, 1]), (.iconst 4, 1, []), (.iload_n 1, 1, []), (.imul, 1, []), (.iaload, 1, []), (.iload_n 2, 1, []), (.iadd, 1, []), (.iconst 3, 1, []), (.isub, 1, []), (.istore 6, 2, []), (.iload_n 2, 1, []), (.iconst 3, 1, []), (.isub, 1, []), (.iload 5, 2, []), (.if_icmp .ge 20, 3, [150])]),
  (133, [(.aload_n 0, 1, []), (.getfield 24, 3, [11, 3, 880, 0]), (.getfield 167, 3, [6, 0, 379, 1]), (.iload 6, 2, []), (.baload, 1, []), (.sipush 255, 3, []), (.iand, 1, []), (.goto 5, 3, [152])]),
  (150, [(.bipush (-9), 2, [])]),
  (152, [(.ireturn, 1, [])])]
set_option maxRecDepth 100000 in
theorem ok_X_export : fk_okM 101 B_X_export = true := by decide +kernel
abbrev C_X_export : fkC := []
set_option maxRecDepth 100000 in
set_option maxHeartbeats 4000000 in
theorem S_X_export {d : Nat} {a0 : Int32} {a1 : Int32} {σ : fkS} {Q : Option Value → fkS → Prop} (h0_3 : σ.2.2 0 3 = 4)
  (h : (((σ.1 0 5) = 0 →
    Q (some (.int (-9 : Int32))) σ) ∧
   (¬ (σ.1 0 5) = 0 →
    ((a0 < 0 →
      Q (some (.int (-9 : Int32))) σ) ∧
     (¬ a0 < 0 →
      (¬ (4 : Nat) = 0 ∧
      (((σ.1 3 12) ≤ a0 →
        Q (some (.int (-9 : Int32))) σ) ∧
       (¬ (σ.1 3 12) ≤ a0 →
        (((-2 : Int32) ≤ a1 →
          (¬ (4 : Nat) = 0 ∧
          (Di d 63 [.ref 3, .int a0] σ (fun x2 σ1 =>
          (¬ (4 : Nat) = 0 ∧
          (Di d 62 [.ref 3, .int a0] (sW σ1 σ) (fun x4 σ3 =>
          ((0 ≤ a1 →
            ((¬ a1 = 0 →
              ((¬ a1 = (1 : Int32) →
                (¬ (4 : Nat) = 0 ∧
                (vp_in (((4 : Int32) * a0) + (1 : Int32)) 240 ∧
                ((¬ a1 = (2 : Int32) →
                  (¬ (4 : Nat) = 0 ∧
                  (vp_in ((4 : Int32) * a0) 240 ∧
                  ((((sW σ3 σ).1 11 ((((4 : Int32) * a0) + (1 : Int32)).toNatClampNeg)) ≤ (a1 - (3 : Int32)) →
                    Q (some (.int (-9 : Int32))) (sW σ3 σ)) ∧
                   (¬ ((sW σ3 σ).1 11 ((((4 : Int32) * a0) + (1 : Int32)).toNatClampNeg)) ≤ (a1 - (3 : Int32)) →
                    (¬ (4 : Nat) = 0 ∧
                    (vp_in ((((sW σ3 σ).1 11 (((4 : Int32) * a0).toNatClampNeg)) + a1) - (3 : Int32)) 4000 ∧
                    Q (some (.int (((sW σ3 σ).1 4 (((((sW σ3 σ).1 11 (((4 : Int32) * a0).toNatClampNeg)) + a1) - (3 : Int32)).toNatClampNeg)) &&& (255 : Int32)))) (sW σ3 σ)))))))) ∧
                 (a1 = (2 : Int32) →
                  Q (some (.int ((sW σ3 σ).1 11 ((((4 : Int32) * a0) + (1 : Int32)).toNatClampNeg)))) (sW σ3 σ)))))) ∧
               (a1 = (1 : Int32) →
                Q (some (.int x4)) (sW σ3 σ)))) ∧
             (a1 = 0 →
              Q (some (.int x2)) (sW σ3 σ)))) ∧
           (¬ 0 ≤ a1 →
            ((x2 = 0 →
              (Di d 102 [.ref 0, .int x4, .int a1] (sW σ3 σ) (fun x6 σ5 =>
              Q (some (.int x6)) (sW σ5 σ)))) ∧
             (¬ x2 = 0 →
              Q (some (.int (-9 : Int32))) (sW σ3 σ)))))))))))) ∧
         (¬ (-2 : Int32) ≤ a1 →
          Q (some (.int (-9 : Int32))) σ)))))))))) :
  Cl (d + 1) 101 [.ref 0, .int a0, .int a1] σ Q := by
  rw [← sR_eta h0_3] at h ⊢
  exact Cl.run B_X_export C_X_export 23 fk_q101 ok_X_export rfl h
def B_X_shapeOf : fkB := [(0, [(.aload_n 0, 1, []), (.getfield 24, 3, [11, 3, 880, 0]), (.getfield 170, 3, [6, 4, 395, 1]), (.iload_n 1, 1, []), (.iaload, 1, []), (.istore_n 3, 1, []), (.iload_n 2, 1, []), (.iconst (-1), 1, []), (.if_icmp .ne 14, 3, [26])]),
  (15, [(.aload_n 0, 1, []), (.getfield 24, 3, [11, 3, 880, 0]), (.iload_n 3, 1, []), (.invokevirtual 173, 3, [86, 1, 1310, 1, 4, 6]), (.goto 11, 3, [34])]),
  (26, [(.aload_n 0, 1, []), (.getfield 24, 3, [11, 3, 880, 0]), (.iload_n 3, 1, []), (.invokevirtual 176, 3, [68, 1, 1311, 1, 4, 6])]),
  (34, [(.ireturn, 1, [])])]
set_option maxRecDepth 100000 in
theorem ok_X_shapeOf : fk_okM 102 B_X_shapeOf = true := by decide +kernel
abbrev C_X_shapeOf : fkC := []
set_option maxRecDepth 100000 in
set_option maxHeartbeats 4000000 in
theorem S_X_shapeOf {d : Nat} {a0 : Int32} {a1 : Int32} {σ : fkS} {Q : Option Value → fkS → Prop} (h0_3 : σ.2.2 0 3 = 4)
  (h : (¬ (4 : Nat) = 0 ∧
  (vp_in a0 60 ∧
  ((¬ a1 = (-1 : Int32) →
    (¬ (4 : Nat) = 0 ∧
    (Di d 68 [.ref 3, .int (σ.1 6 a0.toNatClampNeg)] σ (fun x2 σ1 =>
    Q (some (.int x2)) (sW σ1 σ))))) ∧
   (a1 = (-1 : Int32) →
    (¬ (4 : Nat) = 0 ∧
    (Di d 86 [.ref 3, .int (σ.1 6 a0.toNatClampNeg)] σ (fun x4 σ3 =>
    Q (some (.int x4)) (sW σ3 σ))))))))) :
  Cl (d + 1) 102 [.ref 0, .int a0, .int a1] σ Q := by
  rw [← sR_eta h0_3] at h ⊢
  exact Cl.run B_X_shapeOf C_X_shapeOf 7 fk_q102 ok_X_shapeOf rfl h
def B_X_argument : fkB := [(0, [(.iload_n 1, 1, []), (.ifCond .lt 9, 3, [10])]),
  (4, [(.iload_n 1, 1, []), (.bipush 8, 2, []), (.if_icmp .lt 5, 3, [12])]),
  (10, [(.iconst 0, 1, []), (.ireturn, 1, [])]),
  (12, [(.aload_n 0, 1, []), (.getfield 17, 3, [11, 2, 879, 0]), (.iload_n 1, 1, []), (.lload_n 2, 1, []), (.lastore, 1, []), (.iconst 1, 1, []), (.ireturn, 1, [])])]
set_option maxRecDepth 100000 in
theorem ok_X_argument : fk_okM 103 B_X_argument = true := by decide +kernel
abbrev C_X_argument : fkC := []
set_option maxRecDepth 100000 in
set_option maxHeartbeats 4000000 in
theorem S_X_argument {d : Nat} {a0 : Int32} {a1 : Int64} {σ : fkS} {Q : Option Value → fkS → Prop} 
  (h : ((a0 < 0 →
    Q (some (.int (0 : Int32))) σ) ∧
   (¬ a0 < 0 →
    ((a0 < (8 : Int32) →
      (vp_in a0 8 ∧
      Q (some (.int (1 : Int32))) (sL σ 2 a0.toNatClampNeg a1))) ∧
     (¬ a0 < (8 : Int32) →
      Q (some (.int (0 : Int32))) σ))))) :
  Cl d 103 [.ref 0, .int a0, .long a1] σ Q := by
  exact Cl.run B_X_argument C_X_argument 7 fk_q103 ok_X_argument rfl h
def B_X_run : fkB := [(0, [(.aload_n 0, 1, []), (.getfield 31, 3, [11, 5, 882, 0]), (.ifCond .eq 29, 3, [33])]),
  (7, [(.iload_n 1, 1, []), (.ifCond .lt 25, 3, [33])]),
  (11, [(.iload_n 1, 1, []), (.aload_n 0, 1, []), (.getfield 24, 3, [11, 3, 880, 0]), (.getfield 149, 3, [6, 12, 427, 1]), (.if_icmp .ge 14, 3, [33])]),
  (22, [(.aload_n 0, 1, []), (.getfield 24, 3, [11, 3, 880, 0]), (.iload_n 1, 1, []), (.invokevirtual 152, 3, [63, 1, 1304, 1, 4, 6]), (.ifCond .eq 5, 3, [35])]),
  (33, [(.iconst (-1), 1, []), (.ireturn, 1, [])]),
  (35, [(.aload_n 0, 1, []), (.getfield 24, 3, [11, 3, 880, 0]), (.iload_n 1, 1, []), (.invokevirtual 156, 3, [62, 1, 1305, 1, 4, 6]), (.istore_n 3, 1, []), (.aload_n 0, 1, []), (.getfield 24, 3, [11, 3, 880, 0]), (.aload_n 0, 1, []), (.getfield 24, 3, [11, 3, 880, 0]), (.getfield 170, 3, [6, 4, 395, 1]), (.iload_n 3, 1, []), (.iaload, 1, []), (.invokevirtual 173, 3, [86, 1, 1310, 1, 4, 6]), (.bipush 8, 2, []), (.if_icmp .le 5, 3, [67])]),
  (65, [(.iconst (-1), 1, []), (.ireturn, 1, [])]),
  (67, [(.iload_n 2, 1, []), (.ifCond .lt 10, 3, [78])]),
  (71, [(.iload_n 2, 1, []), (.sipush 20000, 3, []), (.if_icmp .le 6, 3, [81])]),
  (78, [(.bipush (-2), 2, []), (.ireturn, 1, [])]),
  (81, [(.aload_n 0, 1, []), (.getfield 55, 3, [11, 9, 886, 0]), (.iload_n 3, 1, []), (.aload_n 0, 1, []), (.getfield 17, 3, [11, 2, 879, 0]), (.iload_n 2, 1, []), (.invokevirtual 179, 3, [105, 3, 1320, 1, 4, 4]), (.istore 4, 2, []), (.aload_n 0, 1, []), (.aload_n 0, 1, []), (.getfield 55, 3, [11, 9, 886, 0]), (.getfield 183, 3, [4, 16, 625, 1]), (.putfield 90, 3, [11, 15, 892, 0]), (.aload_n 0, 1, []), (.aload_n 0, 1, []), (.getfield 55, 3, [11, 9, 886, 0]), (.getfield 186, 3, [4, 14, 621, 1]), (.putfield 94, 3, [11, 16, 893, 0]), (.aload_n 0, 1, []), (.aload_n 0, 1, []), (.getfield 55, 3, [11, 9, 886, 0]), (.getfield 189, 3, [4, 15, 623, 1]), (.putfield 97, 3, [11, 17, 894, 0]), (.iload 4, 2, []), (.ireturn, 1, [])])]
set_option maxRecDepth 100000 in
theorem ok_X_run : fk_okM 104 B_X_run = true := by decide +kernel
abbrev C_X_run : fkC := []
set_option maxRecDepth 100000 in
set_option maxHeartbeats 4000000 in
theorem S_X_run {d : Nat} {a0 : Int32} {a1 : Int32} {σ : fkS} {Q : Option Value → fkS → Prop} (h0_3 : σ.2.2 0 3 = 4)
  (h : (((σ.1 0 5) = 0 →
    Q (some (.int (-1 : Int32))) σ) ∧
   (¬ (σ.1 0 5) = 0 →
    ((a0 < 0 →
      Q (some (.int (-1 : Int32))) σ) ∧
     (¬ a0 < 0 →
      (¬ (4 : Nat) = 0 ∧
      (((σ.1 3 12) ≤ a0 →
        Q (some (.int (-1 : Int32))) σ) ∧
       (¬ (σ.1 3 12) ≤ a0 →
        (¬ (4 : Nat) = 0 ∧
        (Di d 63 [.ref 3, .int a0] σ (fun x2 σ1 =>
        ((x2 = 0 →
          (¬ (4 : Nat) = 0 ∧
          (Di d 62 [.ref 3, .int a0] (sW σ1 σ) (fun x4 σ3 =>
          (¬ (4 : Nat) = 0 ∧
          (¬ (4 : Nat) = 0 ∧
          (vp_in x4 60 ∧
          (Di d 86 [.ref 3, .int ((sW σ3 σ).1 6 x4.toNatClampNeg)] (sW σ3 σ) (fun x6 σ5 =>
          ((x6 ≤ (8 : Int32) →
            ((a1 < 0 →
              Q (some (.int (-2 : Int32))) (sW σ5 σ)) ∧
             (¬ a1 < 0 →
              ((a1 ≤ (20000 : Int32) →
                (Di d 105 [.ref 56, .int x4, .ref 2, .int a1] (sW σ5 σ) (fun x8 σ7 =>
                Q (some (.int x8)) (sI (sI (sL (sW σ7 σ) 0 15 ((sW σ7 σ).2.1 56 16)) 0 16 ((sW σ7 σ).1 56 14)) 0 17 ((sW σ7 σ).1 56 15))))) ∧
               (¬ a1 ≤ (20000 : Int32) →
                Q (some (.int (-2 : Int32))) (sW σ5 σ)))))) ∧
           (¬ x6 ≤ (8 : Int32) →
            Q (some (.int (-1 : Int32))) (sW σ5 σ)))))))))))) ∧
         (¬ x2 = 0 →
          Q (some (.int (-1 : Int32))) (sW σ1 σ)))))))))))))) :
  Cl (d + 1) 104 [.ref 0, .int a0, .int a1] σ Q := by
  rw [← sR_eta h0_3] at h ⊢
  exact Cl.run B_X_run C_X_run 14 fk_q104 ok_X_run rfl h
def B_X_outcome : fkB := [(0, [(.iload_n 1, 1, []), (.tableswitch 44 0 2 #[27, 32, 38], 27, [45, 28, 33, 39])]),
  (28, [(.aload_n 0, 1, []), (.getfield 90, 3, [11, 15, 892, 0]), (.lreturn, 1, [])]),
  (33, [(.aload_n 0, 1, []), (.getfield 94, 3, [11, 16, 893, 0]), (.i2l, 1, []), (.lreturn, 1, [])]),
  (39, [(.aload_n 0, 1, []), (.getfield 97, 3, [11, 17, 894, 0]), (.i2l, 1, []), (.lreturn, 1, [])]),
  (45, [(.lconst 0, 1, []), (.lreturn, 1, [])])]
set_option maxRecDepth 100000 in
theorem ok_X_outcome : fk_okM 138 B_X_outcome = true := by decide +kernel
abbrev C_X_outcome : fkC := []
set_option maxRecDepth 100000 in
set_option maxHeartbeats 4000000 in
theorem S_X_outcome {d : Nat} {a0 : Int32} {σ : fkS} {Q : Option Value → fkS → Prop} 
  (h : (((a0.toInt < 0 ∨ 2 < a0.toInt) →
    Q (some (.long (0 : Int64))) σ) ∧
   (a0.toInt = 0 →
    Q (some (.long (σ.2.1 0 15))) σ) ∧
   (a0.toInt = 1 →
    Q (some (.long ((σ.1 0 16).toInt64))) σ) ∧
   (a0.toInt = 2 →
    Q (some (.long ((σ.1 0 17).toInt64))) σ) ∧ True)) :
  Cl d 138 [.ref 0, .int a0] σ Q := by
  exact Cl.run B_X_outcome C_X_outcome 8 fk_q138 ok_X_outcome rfl h
def B_X_global : fkB := [(0, [(.aload_n 0, 1, []), (.getfield 31, 3, [11, 5, 882, 0]), (.ifCond .eq 30, 3, [34])]),
  (7, [(.iload_n 1, 1, []), (.ifCond .lt 26, 3, [34])]),
  (11, [(.iload_n 1, 1, []), (.aload_n 0, 1, []), (.getfield 24, 3, [11, 3, 880, 0]), (.getfield 146, 3, [6, 9, 417, 1]), (.if_icmp .ge 15, 3, [34])]),
  (22, [(.aload_n 0, 1, []), (.getfield 55, 3, [11, 9, 886, 0]), (.getfield 192, 3, [4, 2, 605, 1]), (.iload_n 1, 1, []), (.laload, 1, []), (.goto 4, 3, [35])]),
  (34, [(.lconst 0, 1, [])]),
  (35, [(.lreturn, 1, [])])]
set_option maxRecDepth 100000 in
theorem ok_X_global : fk_okM 139 B_X_global = true := by decide +kernel
abbrev C_X_global : fkC := []
set_option maxRecDepth 100000 in
set_option maxHeartbeats 4000000 in
theorem S_X_global {d : Nat} {a0 : Int32} {σ : fkS} {Q : Option Value → fkS → Prop} (h0_3 : σ.2.2 0 3 = 4)
  (h : (((σ.1 0 5) = 0 →
    Q (some (.long (0 : Int64))) σ) ∧
   (¬ (σ.1 0 5) = 0 →
    ((a0 < 0 →
      Q (some (.long (0 : Int64))) σ) ∧
     (¬ a0 < 0 →
      (¬ (4 : Nat) = 0 ∧
      (((σ.1 3 9) ≤ a0 →
        Q (some (.long (0 : Int64))) σ) ∧
       (¬ (σ.1 3 9) ≤ a0 →
        (vp_in a0 60 ∧
        Q (some (.long (σ.2.1 57 a0.toNatClampNeg))) σ))))))))) :
  Cl d 139 [.ref 0, .int a0] σ Q := by
  rw [← sR_eta h0_3] at h ⊢
  exact Cl.run B_X_global C_X_global 9 fk_q139 ok_X_global rfl h
def B_X_memory : fkB := [(0, [(.aload_n 0, 1, []), (.getfield 31, 3, [11, 5, 882, 0]), (.ifCond .eq 18, 3, [22])]),
  (7, [(.iload_n 1, 1, []), (.ifCond .lt 14, 3, [22])]),
  (11, [(.iload_n 1, 1, []), (.aload_n 0, 1, []), (.getfield 55, 3, [11, 9, 886, 0]), (.invokevirtual 194, 3, [122, 0, 1476, 1, 4, 4]), (.if_icmp .lt 5, 3, [24])]),
  (22, [(.iconst (-1), 1, []), (.ireturn, 1, [])]),
  (24, [(.aload_n 0, 1, []), (.getfield 55, 3, [11, 9, 886, 0]), (.iload_n 1, 1, []), (.invokevirtual 198, 3, [123, 1, 1477, 1, 4, 4]), (.ireturn, 1, [])])]
set_option maxRecDepth 100000 in
theorem ok_X_memory : fk_okM 140 B_X_memory = true := by decide +kernel
abbrev C_X_memory : fkC := []
set_option maxRecDepth 100000 in
set_option maxHeartbeats 4000000 in
theorem S_X_memory {d : Nat} {a0 : Int32} {σ : fkS} {Q : Option Value → fkS → Prop} 
  (h : (((σ.1 0 5) = 0 →
    Q (some (.int (-1 : Int32))) σ) ∧
   (¬ (σ.1 0 5) = 0 →
    ((a0 < 0 →
      Q (some (.int (-1 : Int32))) σ) ∧
     (¬ a0 < 0 →
      (Di d 122 [.ref 56] σ (fun x2 σ1 =>
      ((a0 < x2 →
        (Di d 123 [.ref 56, .int a0] (sW σ1 σ) (fun x4 σ3 =>
        Q (some (.int x4)) (sW σ3 σ)))) ∧
       (¬ a0 < x2 →
        Q (some (.int (-1 : Int32))) (sW σ1 σ)))))))))) :
  Cl (d + 1) 140 [.ref 0, .int a0] σ Q := by
  exact Cl.run B_X_memory C_X_memory 8 fk_q140 ok_X_memory rfl h
def B_X_table : fkB := [(0, [(.aload_n 0, 1, []), (.getfield 31, 3, [11, 5, 882, 0]), (.ifCond .eq 18, 3, [22])]),
  (7, [(.iload_n 1, 1, []), (.ifCond .lt 14, 3, [22])]),
  (11, [(.iload_n 1, 1, []), (.aload_n 0, 1, []), (.getfield 55, 3, [11, 9, 886, 0]), (.getfield 137, 3, [4, 6, 612, 1]), (.if_icmp .lt 6, 3, [25])]),
  (22, [(.bipush (-2), 2, []), (.ireturn, 1, [])]),
  (25, [(.aload_n 0, 1, []), (.getfield 55, 3, [11, 9, 886, 0]), (.getfield 201, 3, [4, 5, 610, 1]), (.iload_n 1, 1, []), (.iaload, 1, []), (.ireturn, 1, [])])]
set_option maxRecDepth 100000 in
theorem ok_X_table : fk_okM 141 B_X_table = true := by decide +kernel
abbrev C_X_table : fkC := []
set_option maxRecDepth 100000 in
set_option maxHeartbeats 4000000 in
theorem S_X_table {d : Nat} {a0 : Int32} {σ : fkS} {Q : Option Value → fkS → Prop} 
  (h : (((σ.1 0 5) = 0 →
    Q (some (.int (-2 : Int32))) σ) ∧
   (¬ (σ.1 0 5) = 0 →
    ((a0 < 0 →
      Q (some (.int (-2 : Int32))) σ) ∧
     (¬ a0 < 0 →
      ((a0 < (σ.1 56 6) →
        (vp_in a0 100 ∧
        Q (some (.int (σ.1 59 a0.toNatClampNeg))) σ)) ∧
       (¬ a0 < (σ.1 56 6) →
        Q (some (.int (-2 : Int32))) σ))))))) :
  Cl d 141 [.ref 0, .int a0] σ Q := by
  exact Cl.run B_X_table C_X_table 8 fk_q141 ok_X_table rfl h
def B_X_program : fkB := [(0, [(.iload_n 1, 1, []), (.iconst 1, 1, []), (.if_icmp .lt 11, 3, [13])]),
  (5, [(.iload_n 1, 1, []), (.aload_n 0, 1, []), (.getfield 13, 3, [11, 1, 878, 0]), (.if_icmp .le 5, 3, [15])]),
  (13, [(.iconst 0, 1, []), (.ireturn, 1, [])]),
  (15, [(.aload_n 0, 1, []), (.iconst 0, 1, []), (.putfield 13, 3, [11, 1, 878, 0]), (.aload_n 0, 1, []), (.getfield 72, 3, [11, 12, 889, 0]), (.aload_n 0, 1, []), (.getfield 66, 3, [11, 11, 888, 0]), (.aload_n 0, 1, []), (.getfield 9, 3, [11, 0, 877, 0]), (.iload_n 1, 1, []), (.invokevirtual 204, 3, [143, 3, 1486, 1, 1, 7])]),
  (36, [(.istore_n 2, 1, []), (.iload_n 2, 1, []), (.ifCond .ge 15, 3, [53])]),
  (41, [(.aload_n 0, 1, []), (.getfield 79, 3, [11, 13, 890, 0]), (.aload_n 0, 1, []), (.getfield 66, 3, [11, 11, 888, 0]), (.invokevirtual 208, 3, [203, 1, 1732, 1, 1, 0]), (.istore_n 2, 1, [])]),
  (53, [(.iload_n 2, 1, []), (.ifCond .lt 7, 3, [61])]),
  (57, [(.iconst (-1), 1, []), (.iload_n 2, 1, []), (.isub, 1, []), (.ireturn, 1, [])]),
  (61, [(.aload_n 0, 1, []), (.getfield 62, 3, [11, 10, 887, 0]), (.astore_n 3, 1, []), (.aload_n 0, 1, []), (.aload_n 0, 1, []), (.getfield 66, 3, [11, 11, 888, 0]), (.putfield 62, 3, [11, 10, 887, 0]), (.aload_n 0, 1, []), (.aload_n 3, 1, []), (.putfield 66, 3, [11, 11, 888, 0]), (.aload_n 0, 1, []), (.getfield 62, 3, [11, 10, 887, 0]), (.getfield 212, 3, [8, 0, 669, 1]), (.ireturn, 1, [])])]
set_option maxRecDepth 100000 in
theorem ok_X_program : fk_okM 142 B_X_program = true := by decide +kernel
abbrev C_X_program : fkC := [(36, [true, false, false, false]), (53, [true, false, true, false])]
set_option maxRecDepth 100000 in
set_option maxHeartbeats 4000000 in
theorem S_X_program {d : Nat} {a0 : Int32} {σ : fkS} {Q : Option Value → fkS → Prop} (h0_11 : σ.2.2 0 11 = 76)
  (h : ((a0 < (1 : Int32) →
    Q (some (.int (0 : Int32))) σ) ∧
   (¬ a0 < (1 : Int32) →
    ((a0 ≤ (σ.1 0 1) →
      (¬ (76 : Nat) = 0 ∧
      (Ci d 143 [.ref 88, .ref 75, .ref 1, .int a0] (sI σ 0 1 (0 : Int32)) (fun x2 σ1 =>
      Wq 142 (d + 1) 36 [some (.ref 0), none, none, none] [.int x2] σ1 Q)))) ∧
     (¬ a0 ≤ (σ.1 0 1) →
      Q (some (.int (0 : Int32))) σ))))) :
  Cl (d + 1) 142 [.ref 0, .int a0] σ Q := by
  rw [← sR_eta h0_11] at h ⊢
  exact Cl.run B_X_program C_X_program 11 fk_q142 ok_X_program rfl h
set_option maxRecDepth 100000 in
set_option maxHeartbeats 4000000 in
theorem S_X_program_36 {d : Nat} {s0 : Int32} {σ : fkS} {Q : Option Value → fkS → Prop} (h0_11 : σ.2.2 0 11 = 76)
  (h : ((0 ≤ s0 →
    Wq 142 (d + 1) 53 [some (.ref 0), none, some (.int s0), none] [] σ Q) ∧
   (¬ 0 ≤ s0 →
    (¬ (76 : Nat) = 0 ∧
    (Ci d 203 [.ref 93, .ref 75] σ (fun x2 σ1 =>
    Wq 142 (d + 1) 53 [some (.ref 0), none, some (.int x2), none] [] σ1 Q)))))) :
  Wq 142 (d + 1) 36 [some (.ref 0), none, none, none] [.int s0] σ Q := by
  rw [← sR_eta h0_11] at h ⊢
  exact fk_run_sound (B := B_X_program) (C := C_X_program) (n := 11) ok_X_program h
set_option maxRecDepth 100000 in
set_option maxHeartbeats 4000000 in
theorem S_X_program_53 {d : Nat} {v2 : Int32} {σ : fkS} {Q : Option Value → fkS → Prop} (h0_10 : σ.2.2 0 10 = 63) (h0_11 : σ.2.2 0 11 = 76)
  (h : ((v2 < 0 →
    (¬ (63 : Nat) = 0 ∧
    (¬ (76 : Nat) = 0 ∧
    (¬ (76 : Nat) = 0 ∧
    Q (some (.int (σ.1 75 0))) (sR (sR σ 0 10 76) 0 11 63))))) ∧
   (¬ v2 < 0 →
    Q (some (.int ((-1 : Int32) - v2))) σ))) :
  Wq 142 (d + 1) 53 [some (.ref 0), none, some (.int v2), none] [] σ Q := by
  rw [← sR_eta h0_10] at h ⊢
  rw [← sR_eta h0_11] at h ⊢
  exact fk_run_sound (B := B_X_program) (C := C_X_program) (n := 11) ok_X_program h
def B_X_call : fkB := [(0, [(.aload_n 0, 1, []), (.getfield 62, 3, [11, 10, 887, 0]), (.iload_n 1, 1, []), (.invokevirtual 213, 3, [218, 1, 1817, 1, 4, 8]), (.ifCond .ne 5, 3, [13])]),
  (11, [(.iconst (-1), 1, []), (.ireturn, 1, [])]),
  (13, [(.aload_n 0, 1, []), (.getfield 86, 3, [11, 14, 891, 0]), (.aload_n 0, 1, []), (.getfield 62, 3, [11, 10, 887, 0]), (.iload_n 1, 1, []), (.aload_n 0, 1, []), (.getfield 17, 3, [11, 2, 879, 0]), (.invokevirtual 217, 3, [224, 3, 1818, 1, 0, 9]), (.aload_n 0, 1, []), (.aload_n 0, 1, []), (.getfield 86, 3, [11, 14, 891, 0]), (.getfield 220, 3, [9, 13, 847, 1]), (.i2l, 1, []), (.putfield 90, 3, [11, 15, 892, 0]), (.aload_n 0, 1, []), (.iconst 0, 1, []), (.putfield 94, 3, [11, 16, 893, 0]), (.aload_n 0, 1, []), (.aload_n 0, 1, []), (.getfield 86, 3, [11, 14, 891, 0]), (.getfield 222, 3, [9, 12, 845, 1]), (.putfield 97, 3, [11, 17, 894, 0]), (.aload_n 0, 1, []), (.getfield 97, 3, [11, 17, 894, 0]), (.ifCond .ne 7, 3, [68])]),
  (64, [(.iconst 0, 1, []), (.goto 4, 3, [69])]),
  (68, [(.iconst 2, 1, [])]),
  (69, [(.ireturn, 1, [])])]
set_option maxRecDepth 100000 in
theorem ok_X_call : fk_okM 223 B_X_call = true := by decide +kernel
abbrev C_X_call : fkC := []
set_option maxRecDepth 100000 in
set_option maxHeartbeats 4000000 in
theorem S_X_call {d : Nat} {a0 : Int32} {σ : fkS} {Q : Option Value → fkS → Prop} (h0_10 : σ.2.2 0 10 = 63)
  (h : (¬ (63 : Nat) = 0 ∧
  (Di d 218 [.ref 62, .int a0] σ (fun x2 σ1 =>
  ((¬ x2 = 0 →
    (¬ (63 : Nat) = 0 ∧
    (Cv d 224 [.ref 98, .ref 62, .int a0, .ref 2] (sW σ1 σ) (fun σ3 =>
    ((¬ (σ3.1 98 12) = 0 →
      Q (some (.int (2 : Int32))) (sI (sI (sL σ3 0 15 ((σ3.1 98 13).toInt64)) 0 16 (0 : Int32)) 0 17 (σ3.1 98 12))) ∧
     ((σ3.1 98 12) = 0 →
      Q (some (.int (0 : Int32))) (sI (sI (sL σ3 0 15 ((σ3.1 98 13).toInt64)) 0 16 (0 : Int32)) 0 17 (σ3.1 98 12)))))))) ∧
   (x2 = 0 →
    Q (some (.int (-1 : Int32))) (sW σ1 σ))))))) :
  Cl (d + 1) 223 [.ref 0, .int a0] σ Q := by
  rw [← sR_eta h0_10] at h ⊢
  exact Cl.run B_X_call C_X_call 9 fk_q223 ok_X_call rfl h
def B_X_spent : fkB := [(0, [(.iload_n 1, 1, []), (.tableswitch 51 0 2 #[27, 35, 43], 27, [52, 28, 36, 44])]),
  (28, [(.aload_n 0, 1, []), (.getfield 86, 3, [11, 14, 891, 0]), (.getfield 225, 3, [9, 9, 839, 1]), (.ireturn, 1, [])]),
  (36, [(.aload_n 0, 1, []), (.getfield 86, 3, [11, 14, 891, 0]), (.getfield 228, 3, [9, 10, 841, 1]), (.ireturn, 1, [])]),
  (44, [(.aload_n 0, 1, []), (.getfield 86, 3, [11, 14, 891, 0]), (.getfield 231, 3, [9, 11, 843, 1]), (.ireturn, 1, [])]),
  (52, [(.iconst 0, 1, []), (.ireturn, 1, [])])]
set_option maxRecDepth 100000 in
theorem ok_X_spent : fk_okM 235 B_X_spent = true := by decide +kernel
abbrev C_X_spent : fkC := []
set_option maxRecDepth 100000 in
set_option maxHeartbeats 4000000 in
theorem S_X_spent {d : Nat} {a0 : Int32} {σ : fkS} {Q : Option Value → fkS → Prop} 
  (h : (((a0.toInt < 0 ∨ 2 < a0.toInt) →
    Q (some (.int (0 : Int32))) σ) ∧
   (a0.toInt = 0 →
    Q (some (.int (σ.1 98 9))) σ) ∧
   (a0.toInt = 1 →
    Q (some (.int (σ.1 98 10))) σ) ∧
   (a0.toInt = 2 →
    Q (some (.int (σ.1 98 11))) σ) ∧ True)) :
  Cl d 235 [.ref 0, .int a0] σ Q := by
  exact Cl.run B_X_spent C_X_spent 8 fk_q235 ok_X_spent rfl h
