/-! THE WALKS of the methods as predicates, by program (wip/whole/gen/gen_S.py). Cells: wip/whole/gen/cells.py prints them. -/
-- not here: Program_<init> Parser_<init> Checker_<init> Runner_<init>
def B_Parser_parse : fkB := [(0, [(.aload_n 0, 1, []), (.aload_n 1, 1, []), (.putfield 11, 3, [7, 0, 746, 0]), (.aload_n 0, 1, []), (.getfield 11, 3, [7, 0, 746, 0]), (.invokevirtual 32, 3, [144, 0, 1490, 1, 3, 8]), (.aload_n 0, 1, []), (.aload_n 2, 1, []), (.putfield 17, 3, [7, 1, 747, 0]), (.aload_n 0, 1, []), (.iload_n 3, 1, []), (.aload_n 2, 1, []), (.arraylength, 1, []), (.invokestatic 35, 3, [1002, 0, 1494]), (.putfield 41, 3, [7, 2, 748, 0]), (.aload_n 0, 1, []), (.invokevirtual 45, 3, [145, 0, 1495, 0, 3, 7]), (.aload_n 0, 1, []), (.iconst 0, 1, []), (.putfield 48, 3, [7, 12, 758, 0]), (.aload_n 0, 1, []), (.iconst (-1), 1, []), (.putfield 51, 3, [7, 13, 759, 0]), (.aload_n 0, 1, []), (.iconst (-1), 1, []), (.putfield 54, 3, [7, 8, 754, 0]), (.aload_n 0, 1, []), (.invokevirtual 57, 3, [182, 0, 1648, 0, 3, 7]), (.iconst 0, 1, []), (.istore 4, 2, [])]),
  (53, [(.iload 4, 2, []), (.bipush 20, 2, []), (.if_icmp .ge 34, 3, [91])]),
  (60, [(.aload_n 0, 1, []), (.invokevirtual 60, 3, [183, 0, 1652, 0, 4, 7]), (.ifCond .eq 27, 3, [91])]),
  (67, [(.iload 4, 2, []), (.ifCond .eq 10, 3, [79])]),
  (72, [(.aload_n 0, 1, []), (.getfield 64, 3, [7, 9, 755, 0]), (.ifCond .eq 15, 3, [91])]),
  (79, [(.aload_n 0, 1, []), (.iload 4, 2, []), (.invokevirtual 67, 3, [184, 1, 1656, 0, 3, 7]), (.iinc 4 1, 3, []), (.goto (-35), 3, [53])]),
  (91, [(.aload_n 0, 1, []), (.invokevirtual 60, 3, [183, 0, 1652, 0, 4, 7]), (.ifCond .eq 14, 3, [109])]),
  (98, [(.aload_n 0, 1, []), (.getfield 64, 3, [7, 9, 755, 0]), (.ifCond .eq 7, 3, [109])]),
  (105, [(.aload_n 0, 1, []), (.invokevirtual 71, 3, [186, 0, 1664, 0, 3, 7])]),
  (109, [(.aload_n 0, 1, []), (.getfield 51, 3, [7, 13, 759, 0]), (.ireturn, 1, [])])]
set_option maxRecDepth 100000 in
theorem ok_Parser_parse : fk_okM 143 B_Parser_parse = true := by decide +kernel
abbrev C_Parser_parse : fkC := [(53, [true, false, false, false, true])]
set_option maxRecDepth 100000 in
set_option maxHeartbeats 4000000 in
theorem S_Parser_parse {d : Nat} {a2 : Int32} {σ : fkS} {Q : Option Value → fkS → Prop} 
  (h : (¬ (76 : Nat) = 0 ∧
  (Dv d 144 [.ref 75] (sR σ 88 0 76) (fun σ1 =>
  (Dv d 145 [.ref 88] (sI (sR (sW σ1 (sR σ 88 0 76)) 88 1 2) 88 2 (if (4000 : Int32) < a2 then (4000 : Int32) else a2)) (fun σ2 =>
  (Dv d 182 [.ref 88] (sI (sI (sI (sW σ2 (sR (sR σ 88 0 76) 88 1 2)) 88 12 (0 : Int32)) 88 13 (-1 : Int32)) 88 8 (-1 : Int32)) (fun σ3 =>
  Wq 143 (d + 1) 53 [some (.ref 88), none, none, none, some (.int (0 : Int32))] [] (sW σ3 (sR (sR σ 88 0 76) 88 1 2)) Q)))))))) :
  Cl (d + 1) 143 [.ref 88, .ref 75, .ref 1, .int a2] σ Q := by
  exact Cl.run B_Parser_parse C_Parser_parse 13 fk_q143 ok_Parser_parse rfl h
set_option maxRecDepth 100000 in
set_option maxHeartbeats 4000000 in
theorem S_Parser_parse_53 {d : Nat} {v4 : Int32} {σ : fkS} {Q : Option Value → fkS → Prop} 
  (h : (((20 : Int32) ≤ v4 →
    (Di d 183 [.ref 88] σ (fun x2 σ1 =>
    ((x2 = 0 →
      Q (some (.int ((sW σ1 σ).1 88 13))) (sW σ1 σ)) ∧
     (¬ x2 = 0 →
      ((((sW σ1 σ).1 88 9) = 0 →
        Q (some (.int ((sW σ1 σ).1 88 13))) (sW σ1 σ)) ∧
       (¬ ((sW σ1 σ).1 88 9) = 0 →
        (Dv d 186 [.ref 88] (sW σ1 σ) (fun σ3 =>
        Q (some (.int ((sW σ3 σ).1 88 13))) (sW σ3 σ)))))))))) ∧
   (¬ (20 : Int32) ≤ v4 →
    (Di d 183 [.ref 88] σ (fun x5 σ4 =>
    ((x5 = 0 →
      (Di d 183 [.ref 88] (sW σ4 σ) (fun x7 σ6 =>
      ((x7 = 0 →
        Q (some (.int ((sW σ6 σ).1 88 13))) (sW σ6 σ)) ∧
       (¬ x7 = 0 →
        ((((sW σ6 σ).1 88 9) = 0 →
          Q (some (.int ((sW σ6 σ).1 88 13))) (sW σ6 σ)) ∧
         (¬ ((sW σ6 σ).1 88 9) = 0 →
          (Dv d 186 [.ref 88] (sW σ6 σ) (fun σ8 =>
          Q (some (.int ((sW σ8 σ).1 88 13))) (sW σ8 σ)))))))))) ∧
     (¬ x5 = 0 →
      ((v4 = 0 →
        (Dv d 184 [.ref 88, .int v4] (sW σ4 σ) (fun σ9 =>
        Wq 143 (d + 1) 53 [some (.ref 88), none, none, none, some (.int (v4 + (1 : Int32)))] [] (sW σ9 σ) Q))) ∧
       (¬ v4 = 0 →
        ((((sW σ4 σ).1 88 9) = 0 →
          (Di d 183 [.ref 88] (sW σ4 σ) (fun x11 σ10 =>
          ((x11 = 0 →
            Q (some (.int ((sW σ10 σ).1 88 13))) (sW σ10 σ)) ∧
           (¬ x11 = 0 →
            ((((sW σ10 σ).1 88 9) = 0 →
              Q (some (.int ((sW σ10 σ).1 88 13))) (sW σ10 σ)) ∧
             (¬ ((sW σ10 σ).1 88 9) = 0 →
              (Dv d 186 [.ref 88] (sW σ10 σ) (fun σ12 =>
              Q (some (.int ((sW σ12 σ).1 88 13))) (sW σ12 σ)))))))))) ∧
         (¬ ((sW σ4 σ).1 88 9) = 0 →
          (Dv d 184 [.ref 88, .int v4] (sW σ4 σ) (fun σ13 =>
          Wq 143 (d + 1) 53 [some (.ref 88), none, none, none, some (.int (v4 + (1 : Int32)))] [] (sW σ13 σ) Q))))))))))))) :
  Wq 143 (d + 1) 53 [some (.ref 88), none, none, none, some (.int v4)] [] σ Q := by
  exact fk_run_sound (B := B_Parser_parse) (C := C_Parser_parse) (n := 13) ok_Parser_parse h
def B_Program_clear : fkB := [(0, [(.aload_n 0, 1, []), (.iconst 0, 1, []), (.putfield 47, 3, [8, 0, 667, 0]), (.aload_n 0, 1, []), (.iconst 0, 1, []), (.putfield 51, 3, [8, 9, 697, 0]), (.return_, 1, [])])]
set_option maxRecDepth 100000 in
theorem ok_Program_clear : fk_okM 144 B_Program_clear = true := by decide +kernel
abbrev C_Program_clear : fkC := []
set_option maxRecDepth 100000 in
set_option maxHeartbeats 4000000 in
theorem S_Program_clear {d : Nat}  {σ : fkS} {Q : Option Value → fkS → Prop} 
  (h : Q none (sI (sI σ 75 0 (0 : Int32)) 75 9 (0 : Int32))) :
  Cl d 144 [.ref 75] σ Q := by
  exact Cl.run B_Program_clear C_Program_clear 4 fk_q144 ok_Program_clear rfl h
def B_Parser_readTokens : fkB := [(0, [(.aload_n 0, 1, []), (.iconst 0, 1, []), (.putfield 77, 3, [7, 7, 753, 0]), (.aload_n 0, 1, []), (.iconst 0, 1, []), (.putfield 80, 3, [7, 3, 749, 0]), (.aload_n 0, 1, []), (.invokevirtual 83, 3, [146, 0, 1499, 0, 3, 7]), (.iconst 0, 1, []), (.istore_n 1, 1, [])]),
  (16, [(.iload_n 1, 1, []), (.sipush 4000, 3, []), (.if_icmp .ge 40, 3, [60])]),
  (23, [(.aload_n 0, 1, []), (.getfield 80, 3, [7, 3, 749, 0]), (.aload_n 0, 1, []), (.getfield 41, 3, [7, 2, 748, 0]), (.if_icmp .ge 29, 3, [60])]),
  (34, [(.aload_n 0, 1, []), (.aload_n 0, 1, []), (.aload_n 0, 1, []), (.getfield 80, 3, [7, 3, 749, 0]), (.invokevirtual 86, 3, [147, 1, 1503, 0, 4, 7]), (.invokevirtual 90, 3, [148, 1, 1507, 0, 3, 7]), (.aload_n 0, 1, []), (.invokevirtual 93, 3, [181, 0, 1644, 0, 3, 7]), (.aload_n 0, 1, []), (.invokevirtual 83, 3, [146, 0, 1499, 0, 3, 7]), (.iinc 1 1, 3, []), (.goto (-41), 3, [16])]),
  (60, [(.aload_n 0, 1, []), (.aload_n 0, 1, []), (.getfield 41, 3, [7, 2, 748, 0]), (.putfield 74, 3, [7, 10, 756, 0]), (.aload_n 0, 1, []), (.iconst 0, 1, []), (.putfield 64, 3, [7, 9, 755, 0]), (.aload_n 0, 1, []), (.invokevirtual 93, 3, [181, 0, 1644, 0, 3, 7]), (.return_, 1, [])])]
set_option maxRecDepth 100000 in
theorem ok_Parser_readTokens : fk_okM 145 B_Parser_readTokens = true := by decide +kernel
abbrev C_Parser_readTokens : fkC := [(16, [true, true])]
set_option maxRecDepth 100000 in
set_option maxHeartbeats 4000000 in
theorem S_Parser_readTokens {d : Nat}  {σ : fkS} {Q : Option Value → fkS → Prop} 
  (h : (Dv d 146 [.ref 88] (sI (sI σ 88 7 (0 : Int32)) 88 3 (0 : Int32)) (fun σ1 =>
  Wq 145 (d + 1) 16 [some (.ref 88), some (.int (0 : Int32))] [] (sW σ1 σ) Q))) :
  Cl (d + 1) 145 [.ref 88] σ Q := by
  exact Cl.run B_Parser_readTokens C_Parser_readTokens 8 fk_q145 ok_Parser_readTokens rfl h
set_option maxRecDepth 100000 in
set_option maxHeartbeats 4000000 in
theorem S_Parser_readTokens_16 {d : Nat} {v1 : Int32} {σ : fkS} {Q : Option Value → fkS → Prop} 
  (h : (((4000 : Int32) ≤ v1 →
    (Dv d 181 [.ref 88] (sI (sI σ 88 10 (σ.1 88 2)) 88 9 (0 : Int32)) (fun σ1 =>
    Q none (sW σ1 σ)))) ∧
   (¬ (4000 : Int32) ≤ v1 →
    (((σ.1 88 2) ≤ (σ.1 88 3) →
      (Dv d 181 [.ref 88] (sI (sI σ 88 10 (σ.1 88 2)) 88 9 (0 : Int32)) (fun σ2 =>
      Q none (sW σ2 σ)))) ∧
     (¬ (σ.1 88 2) ≤ (σ.1 88 3) →
      (Di d 147 [.ref 88, .int (σ.1 88 3)] σ (fun x4 σ3 =>
      (Dv d 148 [.ref 88, .int x4] (sW σ3 σ) (fun σ5 =>
      (Dv d 181 [.ref 88] (sW σ5 σ) (fun σ6 =>
      (Dv d 146 [.ref 88] (sW σ6 σ) (fun σ7 =>
      Wq 145 (d + 1) 16 [some (.ref 88), some (.int (v1 + (1 : Int32)))] [] (sW σ7 σ) Q))))))))))))) :
  Wq 145 (d + 1) 16 [some (.ref 88), some (.int v1)] [] σ Q := by
  exact fk_run_sound (B := B_Parser_readTokens) (C := C_Parser_readTokens) (n := 8) ok_Parser_readTokens h
def B_Parser_skipBlanks : fkB := [(0, [(.aload_n 0, 1, []), (.getfield 80, 3, [7, 3, 749, 0]), (.aload_n 0, 1, []), (.getfield 41, 3, [7, 2, 748, 0]), (.if_icmp .ge 44, 3, [52])]),
  (11, [(.aload_n 0, 1, []), (.getfield 17, 3, [7, 1, 747, 0]), (.aload_n 0, 1, []), (.getfield 80, 3, [7, 3, 749, 0]), (.baload, 1, []), (.bipush 32, 2, []), (.if_icmp .eq 17, 3, [39])]),
  (25, [(.aload_n 0, 1, []), (.getfield 17, 3, [7, 1, 747, 0]), (.aload_n 0, 1, []), (.getfield 80, 3, [7, 3, 749, 0]), (.baload, 1, []), (.bipush 10, 2, []), (.if_icmp .ne 16, 3, [52])]),
  (39, [(.aload_n 0, 1, []), (.dup, 1, []), (.getfield 80, 3, [7, 3, 749, 0]), (.iconst 1, 1, []), (.iadd, 1, []), (.putfield 80, 3, [7, 3, 749, 0]), (.goto (-49), 3, [0])]),
  (52, [(.return_, 1, [])])]
set_option maxRecDepth 100000 in
theorem ok_Parser_skipBlanks : fk_okM 146 B_Parser_skipBlanks = true := by decide +kernel
abbrev C_Parser_skipBlanks : fkC := [(0, [true])]
set_option maxRecDepth 100000 in
set_option maxHeartbeats 4000000 in
theorem S_Parser_skipBlanks {d : Nat}  {σ : fkS} {Q : Option Value → fkS → Prop} (h88_1 : σ.2.2 88 1 = 2)
  (h : (((σ.1 88 2) ≤ (σ.1 88 3) →
    Q none σ) ∧
   (¬ (σ.1 88 2) ≤ (σ.1 88 3) →
    (¬ (2 : Nat) = 0 ∧
    (vp_in (σ.1 88 3) 4000 ∧
    (((σ.1 1 ((σ.1 88 3).toNatClampNeg)) = (32 : Int32) →
      Wq 146 d 0 [some (.ref 88)] [] (sI σ 88 3 ((σ.1 88 3) + (1 : Int32))) Q) ∧
     (¬ (σ.1 1 ((σ.1 88 3).toNatClampNeg)) = (32 : Int32) →
      (¬ (2 : Nat) = 0 ∧
      (vp_in (σ.1 88 3) 4000 ∧
      ((¬ (σ.1 1 ((σ.1 88 3).toNatClampNeg)) = (10 : Int32) →
        Q none σ) ∧
       ((σ.1 1 ((σ.1 88 3).toNatClampNeg)) = (10 : Int32) →
        Wq 146 d 0 [some (.ref 88)] [] (sI σ 88 3 ((σ.1 88 3) + (1 : Int32))) Q))))))))))) :
  Cl d 146 [.ref 88] σ Q := by
  rw [← sR_eta h88_1] at h ⊢
  exact Cl.run B_Parser_skipBlanks C_Parser_skipBlanks 8 fk_q146 ok_Parser_skipBlanks rfl h
set_option maxRecDepth 100000 in
set_option maxHeartbeats 4000000 in
theorem S_Parser_skipBlanks_0 {d : Nat}  {σ : fkS} {Q : Option Value → fkS → Prop} (h88_1 : σ.2.2 88 1 = 2)
  (h : (((σ.1 88 2) ≤ (σ.1 88 3) →
    Q none σ) ∧
   (¬ (σ.1 88 2) ≤ (σ.1 88 3) →
    (¬ (2 : Nat) = 0 ∧
    (vp_in (σ.1 88 3) 4000 ∧
    (((σ.1 1 ((σ.1 88 3).toNatClampNeg)) = (32 : Int32) →
      Wq 146 d 0 [some (.ref 88)] [] (sI σ 88 3 ((σ.1 88 3) + (1 : Int32))) Q) ∧
     (¬ (σ.1 1 ((σ.1 88 3).toNatClampNeg)) = (32 : Int32) →
      (¬ (2 : Nat) = 0 ∧
      (vp_in (σ.1 88 3) 4000 ∧
      ((¬ (σ.1 1 ((σ.1 88 3).toNatClampNeg)) = (10 : Int32) →
        Q none σ) ∧
       ((σ.1 1 ((σ.1 88 3).toNatClampNeg)) = (10 : Int32) →
        Wq 146 d 0 [some (.ref 88)] [] (sI σ 88 3 ((σ.1 88 3) + (1 : Int32))) Q))))))))))) :
  Wq 146 d 0 [some (.ref 88)] [] σ Q := by
  rw [← sR_eta h88_1] at h ⊢
  exact fk_run_sound (B := B_Parser_skipBlanks) (C := C_Parser_skipBlanks) (n := 8) ok_Parser_skipBlanks h
def B_Parser_byteAt : fkB := [(0, [(.iload_n 1, 1, []), (.ifCond .lt 24, 3, [25])]),
  (4, [(.iload_n 1, 1, []), (.aload_n 0, 1, []), (.getfield 41, 3, [7, 2, 748, 0]), (.if_icmp .ge 16, 3, [25])]),
  (12, [(.aload_n 0, 1, []), (.getfield 17, 3, [7, 1, 747, 0]), (.iload_n 1, 1, []), (.baload, 1, []), (.sipush 255, 3, []), (.iand, 1, []), (.goto 4, 3, [26])]),
  (25, [(.iconst 0, 1, [])]),
  (26, [(.ireturn, 1, [])])]
set_option maxRecDepth 100000 in
theorem ok_Parser_byteAt : fk_okM 147 B_Parser_byteAt = true := by decide +kernel
abbrev C_Parser_byteAt : fkC := []
set_option maxRecDepth 100000 in
set_option maxHeartbeats 4000000 in
theorem S_Parser_byteAt {d : Nat} {a0 : Int32} {σ : fkS} {Q : Option Value → fkS → Prop} (h88_1 : σ.2.2 88 1 = 2)
  (h : ((a0 < 0 →
    Q (some (.int (0 : Int32))) σ) ∧
   (¬ a0 < 0 →
    (((σ.1 88 2) ≤ a0 →
      Q (some (.int (0 : Int32))) σ) ∧
     (¬ (σ.1 88 2) ≤ a0 →
      (¬ (2 : Nat) = 0 ∧
      (vp_in a0 4000 ∧
      Q (some (.int ((σ.1 1 a0.toNatClampNeg) &&& (255 : Int32)))) σ))))))) :
  Cl d 147 [.ref 88, .int a0] σ Q := by
  rw [← sR_eta h88_1] at h ⊢
  exact Cl.run B_Parser_byteAt C_Parser_byteAt 8 fk_q147 ok_Parser_byteAt rfl h
def B_Parser_oneToken : fkB := [(0, [(.aload_n 0, 1, []), (.aload_n 0, 1, []), (.getfield 80, 3, [7, 3, 749, 0]), (.putfield 74, 3, [7, 10, 756, 0]), (.aload_n 0, 1, []), (.lconst 0, 1, []), (.putfield 96, 3, [7, 11, 757, 0]), (.iload_n 1, 1, []), (.invokestatic 100, 3, [149, 1, 1511, 0, 4]), (.ifCond .eq 10, 3, [27])]),
  (20, [(.aload_n 0, 1, []), (.invokevirtual 104, 3, [150, 0, 1514, 0, 3, 7]), (.goto 22, 3, [46])]),
  (27, [(.iload_n 1, 1, []), (.invokestatic 107, 3, [151, 1, 1518, 0, 4]), (.ifCond .eq 10, 3, [41])]),
  (34, [(.aload_n 0, 1, []), (.invokevirtual 110, 3, [164, 0, 1575, 0, 3, 7]), (.goto 8, 3, [46])]),
  (41, [(.aload_n 0, 1, []), (.iload_n 1, 1, []), (.invokevirtual 113, 3, [165, 1, 1584, 0, 3, 7])]),
  (46, [(.return_, 1, [])])]
set_option maxRecDepth 100000 in
theorem ok_Parser_oneToken : fk_okM 148 B_Parser_oneToken = true := by decide +kernel
abbrev C_Parser_oneToken : fkC := []
set_option maxRecDepth 100000 in
set_option maxHeartbeats 4000000 in
theorem S_Parser_oneToken {d : Nat} {a0 : Int32} {σ : fkS} {Q : Option Value → fkS → Prop} 
  (h : (Di d 149 [.int a0] (sL (sI σ 88 10 (σ.1 88 3)) 88 11 (0 : Int64)) (fun x2 σ1 =>
  ((x2 = 0 →
    (Di d 151 [.int a0] (sW σ1 σ) (fun x4 σ3 =>
    ((x4 = 0 →
      (Dv d 165 [.ref 88, .int a0] (sW σ3 σ) (fun σ5 =>
      Q none (sW σ5 σ)))) ∧
     (¬ x4 = 0 →
      (Dv d 164 [.ref 88] (sW σ3 σ) (fun σ6 =>
      Q none (sW σ6 σ)))))))) ∧
   (¬ x2 = 0 →
    (Dv d 150 [.ref 88] (sW σ1 σ) (fun σ7 =>
    Q none (sW σ7 σ)))))))) :
  Cl (d + 1) 148 [.ref 88, .int a0] σ Q := by
  exact Cl.run B_Parser_oneToken C_Parser_oneToken 9 fk_q148 ok_Parser_oneToken rfl h
def B_Parser_isLetter : fkB := [(0, [(.iload_n 0, 1, []), (.bipush 97, 2, []), (.if_icmp .lt 13, 3, [16])]),
  (6, [(.iload_n 0, 1, []), (.bipush 122, 2, []), (.if_icmp .gt 7, 3, [16])]),
  (12, [(.iconst 1, 1, []), (.goto 4, 3, [17])]),
  (16, [(.iconst 0, 1, [])]),
  (17, [(.ireturn, 1, [])])]
set_option maxRecDepth 100000 in
theorem ok_Parser_isLetter : fk_okM 149 B_Parser_isLetter = true := by decide +kernel
abbrev C_Parser_isLetter : fkC := []
set_option maxRecDepth 100000 in
set_option maxHeartbeats 4000000 in
theorem S_Parser_isLetter {d : Nat} {a0 : Int32} {σ : fkS} {Q : Option Value → fkS → Prop} 
  (h : ((a0 < (97 : Int32) →
    Q (some (.int (0 : Int32))) σ) ∧
   (¬ a0 < (97 : Int32) →
    (((122 : Int32) < a0 →
      Q (some (.int (0 : Int32))) σ) ∧
     (¬ (122 : Int32) < a0 →
      Q (some (.int (1 : Int32))) σ))))) :
  Cl d 149 [.int a0] σ Q := by
  exact Cl.run B_Parser_isLetter C_Parser_isLetter 8 fk_q149 ok_Parser_isLetter rfl h
def B_Parser_isDigit : fkB := [(0, [(.iload_n 0, 1, []), (.bipush 48, 2, []), (.if_icmp .lt 13, 3, [16])]),
  (6, [(.iload_n 0, 1, []), (.bipush 57, 2, []), (.if_icmp .gt 7, 3, [16])]),
  (12, [(.iconst 1, 1, []), (.goto 4, 3, [17])]),
  (16, [(.iconst 0, 1, [])]),
  (17, [(.ireturn, 1, [])])]
set_option maxRecDepth 100000 in
theorem ok_Parser_isDigit : fk_okM 151 B_Parser_isDigit = true := by decide +kernel
abbrev C_Parser_isDigit : fkC := []
set_option maxRecDepth 100000 in
set_option maxHeartbeats 4000000 in
theorem S_Parser_isDigit {d : Nat} {a0 : Int32} {σ : fkS} {Q : Option Value → fkS → Prop} 
  (h : ((a0 < (48 : Int32) →
    Q (some (.int (0 : Int32))) σ) ∧
   (¬ a0 < (48 : Int32) →
    (((57 : Int32) < a0 →
      Q (some (.int (0 : Int32))) σ) ∧
     (¬ (57 : Int32) < a0 →
      Q (some (.int (1 : Int32))) σ))))) :
  Cl d 151 [.int a0] σ Q := by
  exact Cl.run B_Parser_isDigit C_Parser_isDigit 8 fk_q151 ok_Parser_isDigit rfl h
def B_Parser_number : fkB := [(0, [(.aload_n 0, 1, []), (.iconst 2, 1, []), (.putfield 64, 3, [7, 9, 755, 0])]),
  (5, [(.aload_n 0, 1, []), (.getfield 80, 3, [7, 3, 749, 0]), (.aload_n 0, 1, []), (.getfield 41, 3, [7, 2, 748, 0]), (.if_icmp .ge 62, 3, [75])]),
  (16, [(.aload_n 0, 1, []), (.aload_n 0, 1, []), (.getfield 80, 3, [7, 3, 749, 0]), (.invokevirtual 86, 3, [147, 1, 1503, 0, 4, 7]), (.invokestatic 107, 3, [151, 1, 1518, 0, 4]), (.ifCond .eq 48, 3, [75])]),
  (30, [(.aload_n 0, 1, []), (.aload_n 0, 1, []), (.getfield 96, 3, [7, 11, 757, 0]), (.ldc2_w 133, 3, [10, 1579]), (.lmul, 1, []), (.aload_n 0, 1, []), (.aload_n 0, 1, []), (.getfield 80, 3, [7, 3, 749, 0]), (.invokevirtual 86, 3, [147, 1, 1503, 0, 4, 7]), (.i2l, 1, []), (.ladd, 1, []), (.ldc2_w 135, 3, [48, 1580]), (.lsub, 1, []), (.ldc2_w 137, 3, [2147483648, 1581]), (.invokestatic 139, 3, [1003, 0, 1582]), (.putfield 96, 3, [7, 11, 757, 0]), (.aload_n 0, 1, []), (.dup, 1, []), (.getfield 80, 3, [7, 3, 749, 0]), (.iconst 1, 1, []), (.iadd, 1, []), (.putfield 80, 3, [7, 3, 749, 0]), (.goto (-67), 3, [5])]),
  (75, [(.aload_n 0, 1, []), (.getfield 96, 3, [7, 11, 757, 0]), (.ldc2_w 142, 3, [2147483647, 1583]), (.lcmp, 1, []), (.ifCond .le 8, 3, [91])]),
  (86, [(.aload_n 0, 1, []), (.iconst 3, 1, []), (.putfield 64, 3, [7, 9, 755, 0])]),
  (91, [(.return_, 1, [])])]
set_option maxRecDepth 100000 in
theorem ok_Parser_number : fk_okM 164 B_Parser_number = true := by decide +kernel
abbrev C_Parser_number : fkC := [(5, [true])]
set_option maxRecDepth 100000 in
set_option maxHeartbeats 4000000 in
theorem S_Parser_number {d : Nat}  {σ : fkS} {Q : Option Value → fkS → Prop} 
  (h : Wq 164 (d + 1) 5 [some (.ref 88)] [] (sI σ 88 9 (2 : Int32)) Q) :
  Cl (d + 1) 164 [.ref 88] σ Q := by
  exact Cl.run B_Parser_number C_Parser_number 10 fk_q164 ok_Parser_number rfl h
set_option maxRecDepth 100000 in
set_option maxHeartbeats 4000000 in
theorem S_Parser_number_5 {d : Nat}  {σ : fkS} {Q : Option Value → fkS → Prop} 
  (h : (((σ.1 88 2) ≤ (σ.1 88 3) →
    (((lg_cmp (σ.2.1 88 11) (2147483647 : Int64)) ≤ 0 →
      Q none σ) ∧
     (¬ (lg_cmp (σ.2.1 88 11) (2147483647 : Int64)) ≤ 0 →
      Q none (sI σ 88 9 (3 : Int32))))) ∧
   (¬ (σ.1 88 2) ≤ (σ.1 88 3) →
    (Di d 147 [.ref 88, .int (σ.1 88 3)] σ (fun x2 σ1 =>
    (Di d 151 [.int x2] (sW σ1 σ) (fun x4 σ3 =>
    ((x4 = 0 →
      (((lg_cmp ((sW σ3 σ).2.1 88 11) (2147483647 : Int64)) ≤ 0 →
        Q none (sW σ3 σ)) ∧
       (¬ (lg_cmp ((sW σ3 σ).2.1 88 11) (2147483647 : Int64)) ≤ 0 →
        Q none (sI (sW σ3 σ) 88 9 (3 : Int32))))) ∧
     (¬ x4 = 0 →
      (Di d 147 [.ref 88, .int ((sW σ3 σ).1 88 3)] (sW σ3 σ) (fun x6 σ5 =>
      Wq 164 (d + 1) 5 [some (.ref 88)] [] (sI (sL (sW σ5 σ) 88 11 (if (Int64.ofNat 2147483648) < (((((sW σ3 σ).2.1 88 11) * (10 : Int64)) + x6.toInt64) - (48 : Int64)) then (Int64.ofNat 2147483648) else (((((sW σ3 σ).2.1 88 11) * (10 : Int64)) + x6.toInt64) - (48 : Int64)))) 88 3 (((sW σ5 σ).1 88 3) + (1 : Int32))) Q))))))))))) :
  Wq 164 (d + 1) 5 [some (.ref 88)] [] σ Q := by
  exact fk_run_sound (B := B_Parser_number) (C := C_Parser_number) (n := 10) ok_Parser_number h
def B_Parser_keepToken : fkB := [(0, [(.aload_n 0, 1, []), (.getfield 77, 3, [7, 7, 753, 0]), (.sipush 4001, 3, []), (.if_icmp .ge 52, 3, [59])]),
  (10, [(.aload_n 0, 1, []), (.getfield 21, 3, [7, 4, 750, 0]), (.aload_n 0, 1, []), (.getfield 77, 3, [7, 7, 753, 0]), (.aload_n 0, 1, []), (.getfield 64, 3, [7, 9, 755, 0]), (.iastore, 1, []), (.aload_n 0, 1, []), (.getfield 25, 3, [7, 5, 751, 0]), (.aload_n 0, 1, []), (.getfield 77, 3, [7, 7, 753, 0]), (.aload_n 0, 1, []), (.getfield 74, 3, [7, 10, 756, 0]), (.iastore, 1, []), (.aload_n 0, 1, []), (.getfield 28, 3, [7, 6, 752, 0]), (.aload_n 0, 1, []), (.getfield 77, 3, [7, 7, 753, 0]), (.aload_n 0, 1, []), (.getfield 96, 3, [7, 11, 757, 0]), (.lastore, 1, []), (.aload_n 0, 1, []), (.dup, 1, []), (.getfield 77, 3, [7, 7, 753, 0]), (.iconst 1, 1, []), (.iadd, 1, []), (.putfield 77, 3, [7, 7, 753, 0])]),
  (59, [(.return_, 1, [])])]
set_option maxRecDepth 100000 in
theorem ok_Parser_keepToken : fk_okM 181 B_Parser_keepToken = true := by decide +kernel
abbrev C_Parser_keepToken : fkC := []
set_option maxRecDepth 100000 in
set_option maxHeartbeats 4000000 in
theorem S_Parser_keepToken {d : Nat}  {σ : fkS} {Q : Option Value → fkS → Prop} 
  (h : (((4001 : Int32) ≤ (σ.1 88 7) →
    Q none σ) ∧
   (¬ (4001 : Int32) ≤ (σ.1 88 7) →
    (vp_in (σ.1 88 7) 4001 ∧
    (vp_in (σ.1 88 7) 4001 ∧
    (vp_in (σ.1 88 7) 4001 ∧
    Q none (sI (sL (sI (sI σ 90 ((σ.1 88 7).toNatClampNeg) (σ.1 88 9)) 91 ((σ.1 88 7).toNatClampNeg) (σ.1 88 10)) 92 ((σ.1 88 7).toNatClampNeg) (σ.2.1 88 11)) 88 7 ((σ.1 88 7) + (1 : Int32))))))))) :
  Cl d 181 [.ref 88] σ Q := by
  exact Cl.run B_Parser_keepToken C_Parser_keepToken 6 fk_q181 ok_Parser_keepToken rfl h
def B_Parser_advance : fkB := [(0, [(.aload_n 0, 1, []), (.getfield 54, 3, [7, 8, 754, 0]), (.iconst 1, 1, []), (.iadd, 1, []), (.aload_n 0, 1, []), (.getfield 77, 3, [7, 7, 753, 0]), (.if_icmp .ge 52, 3, [62])]),
  (13, [(.aload_n 0, 1, []), (.dup, 1, []), (.getfield 54, 3, [7, 8, 754, 0]), (.iconst 1, 1, []), (.iadd, 1, []), (.putfield 54, 3, [7, 8, 754, 0]), (.aload_n 0, 1, []), (.aload_n 0, 1, []), (.getfield 21, 3, [7, 4, 750, 0]), (.aload_n 0, 1, []), (.getfield 54, 3, [7, 8, 754, 0]), (.iaload, 1, []), (.putfield 64, 3, [7, 9, 755, 0]), (.aload_n 0, 1, []), (.aload_n 0, 1, []), (.getfield 25, 3, [7, 5, 751, 0]), (.aload_n 0, 1, []), (.getfield 54, 3, [7, 8, 754, 0]), (.iaload, 1, []), (.putfield 74, 3, [7, 10, 756, 0]), (.aload_n 0, 1, []), (.aload_n 0, 1, []), (.getfield 28, 3, [7, 6, 752, 0]), (.aload_n 0, 1, []), (.getfield 54, 3, [7, 8, 754, 0]), (.laload, 1, []), (.putfield 96, 3, [7, 11, 757, 0])]),
  (62, [(.return_, 1, [])])]
set_option maxRecDepth 100000 in
theorem ok_Parser_advance : fk_okM 182 B_Parser_advance = true := by decide +kernel
abbrev C_Parser_advance : fkC := []
set_option maxRecDepth 100000 in
set_option maxHeartbeats 4000000 in
theorem S_Parser_advance {d : Nat}  {σ : fkS} {Q : Option Value → fkS → Prop} 
  (h : (((σ.1 88 7) ≤ ((σ.1 88 8) + (1 : Int32)) →
    Q none σ) ∧
   (¬ (σ.1 88 7) ≤ ((σ.1 88 8) + (1 : Int32)) →
    (vp_in ((σ.1 88 8) + (1 : Int32)) 4001 ∧
    (vp_in ((σ.1 88 8) + (1 : Int32)) 4001 ∧
    (vp_in ((σ.1 88 8) + (1 : Int32)) 4001 ∧
    Q none (sL (sI (sI (sI σ 88 8 ((σ.1 88 8) + (1 : Int32))) 88 9 (σ.1 90 (((σ.1 88 8) + (1 : Int32)).toNatClampNeg))) 88 10 (σ.1 91 (((σ.1 88 8) + (1 : Int32)).toNatClampNeg))) 88 11 (σ.2.1 92 (((σ.1 88 8) + (1 : Int32)).toNatClampNeg))))))))) :
  Cl d 182 [.ref 88] σ Q := by
  exact Cl.run B_Parser_advance C_Parser_advance 6 fk_q182 ok_Parser_advance rfl h
def B_Parser_fine : fkB := [(0, [(.aload_n 0, 1, []), (.getfield 51, 3, [7, 13, 759, 0]), (.ifCond .ge 7, 3, [11])]),
  (7, [(.iconst 1, 1, []), (.goto 4, 3, [12])]),
  (11, [(.iconst 0, 1, [])]),
  (12, [(.ireturn, 1, [])])]
set_option maxRecDepth 100000 in
theorem ok_Parser_fine : fk_okM 183 B_Parser_fine = true := by decide +kernel
abbrev C_Parser_fine : fkC := []
set_option maxRecDepth 100000 in
set_option maxHeartbeats 4000000 in
theorem S_Parser_fine {d : Nat}  {σ : fkS} {Q : Option Value → fkS → Prop} 
  (h : ((0 ≤ (σ.1 88 13) →
    Q (some (.int (0 : Int32))) σ) ∧
   (¬ 0 ≤ (σ.1 88 13) →
    Q (some (.int (1 : Int32))) σ))) :
  Cl d 183 [.ref 88] σ Q := by
  exact Cl.run B_Parser_fine C_Parser_fine 7 fk_q183 ok_Parser_fine rfl h
def B_Parser_definition : fkB := [(0, [(.aload_n 0, 1, []), (.iconst 4, 1, []), (.invokevirtual 149, 3, [185, 1, 1660, 0, 3, 7]), (.aload_n 0, 1, []), (.getfield 11, 3, [7, 0, 746, 0]), (.getfield 152, 3, [8, 2, 676, 1]), (.iload_n 1, 1, []), (.aload_n 0, 1, []), (.getfield 74, 3, [7, 10, 756, 0]), (.iastore, 1, []), (.aload_n 0, 1, []), (.getfield 11, 3, [7, 0, 746, 0]), (.getfield 155, 3, [8, 1, 673, 1]), (.iload_n 1, 1, []), (.aload_n 0, 1, []), (.getfield 96, 3, [7, 11, 757, 0]), (.lastore, 1, []), (.aload_n 0, 1, []), (.iconst 1, 1, []), (.invokevirtual 149, 3, [185, 1, 1660, 0, 3, 7]), (.aload_n 0, 1, []), (.bipush 40, 2, []), (.invokevirtual 149, 3, [185, 1, 1660, 0, 3, 7]), (.iconst 0, 1, []), (.istore_n 2, 1, []), (.aload_n 0, 1, []), (.invokevirtual 60, 3, [183, 0, 1652, 0, 4, 7]), (.istore_n 3, 1, [])]),
  (49, [(.iload_n 3, 1, []), (.ifCond .eq 109, 3, [159])]),
  (53, [(.iload_n 2, 1, []), (.iconst 4, 1, []), (.if_icmp .ge 104, 3, [159])]),
  (58, [(.iconst 4, 1, []), (.iload_n 1, 1, []), (.imul, 1, []), (.iload_n 2, 1, []), (.iadd, 1, []), (.istore 4, 2, []), (.aload_n 0, 1, []), (.getfield 11, 3, [7, 0, 746, 0]), (.getfield 158, 3, [8, 7, 693, 1]), (.iload 4, 2, []), (.aload_n 0, 1, []), (.getfield 74, 3, [7, 10, 756, 0]), (.iastore, 1, []), (.aload_n 0, 1, []), (.getfield 11, 3, [7, 0, 746, 0]), (.getfield 161, 3, [8, 6, 690, 1]), (.iload 4, 2, []), (.aload_n 0, 1, []), (.getfield 96, 3, [7, 11, 757, 0]), (.lastore, 1, []), (.aload_n 0, 1, []), (.iconst 1, 1, []), (.invokevirtual 149, 3, [185, 1, 1660, 0, 3, 7]), (.aload_n 0, 1, []), (.bipush 58, 2, []), (.invokevirtual 149, 3, [185, 1, 1660, 0, 3, 7]), (.aload_n 0, 1, []), (.getfield 11, 3, [7, 0, 746, 0]), (.getfield 164, 3, [8, 8, 696, 1]), (.iload 4, 2, []), (.aload_n 0, 1, []), (.invokevirtual 167, 3, [187, 0, 1668, 0, 4, 7]), (.iastore, 1, []), (.iinc 2 1, 3, []), (.aload_n 0, 1, []), (.invokevirtual 60, 3, [183, 0, 1652, 0, 4, 7]), (.ifCond .eq 21, 3, [146])]),
  (128, [(.aload_n 0, 1, []), (.getfield 64, 3, [7, 9, 755, 0]), (.bipush 44, 2, []), (.if_icmp .ne 12, 3, [146])]),
  (137, [(.iload_n 2, 1, []), (.iconst 4, 1, []), (.if_icmp .ge 7, 3, [146])]),
  (142, [(.iconst 1, 1, []), (.goto 4, 3, [147])]),
  (146, [(.iconst 0, 1, [])]),
  (147, [(.istore_n 3, 1, []), (.iload_n 3, 1, []), (.ifCond .eq 7, 3, [156])]),
  (152, [(.aload_n 0, 1, []), (.invokevirtual 57, 3, [182, 0, 1648, 0, 3, 7])]),
  (156, [(.goto (-107), 3, [49])]),
  (159, [(.aload_n 0, 1, []), (.getfield 11, 3, [7, 0, 746, 0]), (.getfield 170, 3, [8, 3, 680, 1]), (.iload_n 1, 1, []), (.iload_n 2, 1, []), (.iastore, 1, []), (.aload_n 0, 1, []), (.bipush 41, 2, []), (.invokevirtual 149, 3, [185, 1, 1660, 0, 3, 7]), (.aload_n 0, 1, []), (.bipush 58, 2, []), (.invokevirtual 149, 3, [185, 1, 1660, 0, 3, 7]), (.aload_n 0, 1, []), (.getfield 11, 3, [7, 0, 746, 0]), (.getfield 173, 3, [8, 4, 683, 1]), (.iload_n 1, 1, []), (.aload_n 0, 1, []), (.invokevirtual 167, 3, [187, 0, 1668, 0, 4, 7]), (.iastore, 1, []), (.aload_n 0, 1, []), (.bipush 61, 2, []), (.invokevirtual 149, 3, [185, 1, 1660, 0, 3, 7]), (.aload_n 0, 1, []), (.getfield 11, 3, [7, 0, 746, 0]), (.getfield 176, 3, [8, 5, 687, 1]), (.iload_n 1, 1, []), (.aload_n 0, 1, []), (.getfield 11, 3, [7, 0, 746, 0]), (.getfield 179, 3, [8, 9, 700, 1]), (.iastore, 1, []), (.aload_n 0, 1, []), (.getfield 11, 3, [7, 0, 746, 0]), (.iload_n 1, 1, []), (.iconst 1, 1, []), (.iadd, 1, []), (.putfield 181, 3, [8, 0, 670, 1]), (.aload_n 0, 1, []), (.getfield 74, 3, [7, 10, 756, 0]), (.istore 4, 2, []), (.aload_n 0, 1, []), (.iconst 1, 1, []), (.invokevirtual 184, 3, [188, 1, 1672, 0, 3, 7]), (.aload_n 0, 1, []), (.getfield 11, 3, [7, 0, 746, 0]), (.bipush 17, 2, []), (.lconst 0, 1, []), (.iload 4, 2, []), (.iconst 0, 1, []), (.invokevirtual 187, 3, [190, 4, 1680, 1, 4, 8]), (.pop, 1, []), (.aload_n 0, 1, []), (.bipush 59, 2, []), (.invokevirtual 149, 3, [185, 1, 1660, 0, 3, 7]), (.return_, 1, [])])]
set_option maxRecDepth 100000 in
theorem ok_Parser_definition : fk_okM 184 B_Parser_definition = true := by decide +kernel
abbrev C_Parser_definition : fkC := [(49, [true, true, true, true, false]), (159, [true, true, true, false, false])]
set_option maxRecDepth 100000 in
set_option maxHeartbeats 4000000 in
theorem S_Parser_definition {d : Nat} {a0 : Int32} {σ : fkS} {Q : Option Value → fkS → Prop} (h88_0 : σ.2.2 88 0 = 76)
  (h : (Dv d 185 [.ref 88, .int (4 : Int32)] σ (fun σ1 =>
  (¬ (76 : Nat) = 0 ∧
  (vp_in a0 20 ∧
  (¬ (76 : Nat) = 0 ∧
  (vp_in a0 20 ∧
  (Dv d 185 [.ref 88, .int (1 : Int32)] (sL (sI (sW σ1 σ) 77 a0.toNatClampNeg ((sW σ1 σ).1 88 10)) 76 a0.toNatClampNeg ((sW σ1 σ).2.1 88 11)) (fun σ2 =>
  (Dv d 185 [.ref 88, .int (40 : Int32)] (sW σ2 σ) (fun σ3 =>
  (Di d 183 [.ref 88] (sW σ3 σ) (fun x5 σ4 =>
  Wq 184 (d + 1) 49 [some (.ref 88), some (.int a0), some (.int (0 : Int32)), some (.int x5), none] [] (sW σ4 σ) Q))))))))))))) :
  Cl (d + 1) 184 [.ref 88, .int a0] σ Q := by
  rw [← sR_eta h88_0] at h ⊢
  exact Cl.run B_Parser_definition C_Parser_definition 15 fk_q184 ok_Parser_definition rfl h
set_option maxRecDepth 100000 in
set_option maxHeartbeats 4000000 in
theorem S_Parser_definition_49 {d : Nat} {v1 : Int32} {v2 : Int32} {v3 : Int32} {σ : fkS} {Q : Option Value → fkS → Prop} (h88_0 : σ.2.2 88 0 = 76)
  (h : ((v3 = 0 →
    Wq 184 (d + 1) 159 [some (.ref 88), some (.int v1), some (.int v2), none, none] [] σ Q) ∧
   (¬ v3 = 0 →
    (((4 : Int32) ≤ v2 →
      Wq 184 (d + 1) 159 [some (.ref 88), some (.int v1), some (.int v2), none, none] [] σ Q) ∧
     (¬ (4 : Int32) ≤ v2 →
      (¬ (76 : Nat) = 0 ∧
      (vp_in (((4 : Int32) * v1) + v2) 80 ∧
      (¬ (76 : Nat) = 0 ∧
      (vp_in (((4 : Int32) * v1) + v2) 80 ∧
      (Dv d 185 [.ref 88, .int (1 : Int32)] (sL (sI σ 82 ((((4 : Int32) * v1) + v2).toNatClampNeg) (σ.1 88 10)) 81 ((((4 : Int32) * v1) + v2).toNatClampNeg) (σ.2.1 88 11)) (fun σ1 =>
      (Dv d 185 [.ref 88, .int (58 : Int32)] (sW σ1 σ) (fun σ2 =>
      (¬ (76 : Nat) = 0 ∧
      (Di d 187 [.ref 88] (sW σ2 σ) (fun x4 σ3 =>
      (vp_in (((4 : Int32) * v1) + v2) 80 ∧
      (Di d 183 [.ref 88] (sI (sW σ3 σ) 83 ((((4 : Int32) * v1) + v2).toNatClampNeg) x4) (fun x6 σ5 =>
      ((x6 = 0 →
        (((0 : Int32) = 0 →
          Wq 184 (d + 1) 49 [some (.ref 88), some (.int v1), some (.int (v2 + (1 : Int32))), some (.int (0 : Int32)), none] [] (sW σ5 σ) Q) ∧
         (¬ (0 : Int32) = 0 →
          (Dv d 182 [.ref 88] (sW σ5 σ) (fun σ7 =>
          Wq 184 (d + 1) 49 [some (.ref 88), some (.int v1), some (.int (v2 + (1 : Int32))), some (.int (0 : Int32)), none] [] (sW σ7 σ) Q))))) ∧
       (¬ x6 = 0 →
        ((¬ ((sW σ5 σ).1 88 9) = (44 : Int32) →
          (((0 : Int32) = 0 →
            Wq 184 (d + 1) 49 [some (.ref 88), some (.int v1), some (.int (v2 + (1 : Int32))), some (.int (0 : Int32)), none] [] (sW σ5 σ) Q) ∧
           (¬ (0 : Int32) = 0 →
            (Dv d 182 [.ref 88] (sW σ5 σ) (fun σ8 =>
            Wq 184 (d + 1) 49 [some (.ref 88), some (.int v1), some (.int (v2 + (1 : Int32))), some (.int (0 : Int32)), none] [] (sW σ8 σ) Q))))) ∧
         (((sW σ5 σ).1 88 9) = (44 : Int32) →
          (((4 : Int32) ≤ (v2 + (1 : Int32)) →
            (((0 : Int32) = 0 →
              Wq 184 (d + 1) 49 [some (.ref 88), some (.int v1), some (.int (v2 + (1 : Int32))), some (.int (0 : Int32)), none] [] (sW σ5 σ) Q) ∧
             (¬ (0 : Int32) = 0 →
              (Dv d 182 [.ref 88] (sW σ5 σ) (fun σ9 =>
              Wq 184 (d + 1) 49 [some (.ref 88), some (.int v1), some (.int (v2 + (1 : Int32))), some (.int (0 : Int32)), none] [] (sW σ9 σ) Q))))) ∧
           (¬ (4 : Int32) ≤ (v2 + (1 : Int32)) →
            (((1 : Int32) = 0 →
              Wq 184 (d + 1) 49 [some (.ref 88), some (.int v1), some (.int (v2 + (1 : Int32))), some (.int (1 : Int32)), none] [] (sW σ5 σ) Q) ∧
             (¬ (1 : Int32) = 0 →
              (Dv d 182 [.ref 88] (sW σ5 σ) (fun σ10 =>
              Wq 184 (d + 1) 49 [some (.ref 88), some (.int v1), some (.int (v2 + (1 : Int32))), some (.int (1 : Int32)), none] [] (sW σ10 σ) Q))))))))))))))))))))))))))))) :
  Wq 184 (d + 1) 49 [some (.ref 88), some (.int v1), some (.int v2), some (.int v3), none] [] σ Q := by
  rw [← sR_eta h88_0] at h ⊢
  exact fk_run_sound (B := B_Parser_definition) (C := C_Parser_definition) (n := 15) ok_Parser_definition h
set_option maxRecDepth 100000 in
set_option maxHeartbeats 4000000 in
theorem S_Parser_definition_159 {d : Nat} {v1 : Int32} {v2 : Int32} {σ : fkS} {Q : Option Value → fkS → Prop} (h88_0 : σ.2.2 88 0 = 76)
  (h : (¬ (76 : Nat) = 0 ∧
  (vp_in v1 20 ∧
  (Dv d 185 [.ref 88, .int (41 : Int32)] (sI σ 78 v1.toNatClampNeg v2) (fun σ1 =>
  (Dv d 185 [.ref 88, .int (58 : Int32)] (sW σ1 σ) (fun σ2 =>
  (¬ (76 : Nat) = 0 ∧
  (Di d 187 [.ref 88] (sW σ2 σ) (fun x4 σ3 =>
  (vp_in v1 20 ∧
  (Dv d 185 [.ref 88, .int (61 : Int32)] (sI (sW σ3 σ) 79 v1.toNatClampNeg x4) (fun σ5 =>
  (¬ (76 : Nat) = 0 ∧
  (¬ (76 : Nat) = 0 ∧
  (vp_in v1 20 ∧
  (¬ (76 : Nat) = 0 ∧
  (Dv d 188 [.ref 88, .int (1 : Int32)] (sI (sI (sW σ5 σ) 80 v1.toNatClampNeg ((sW σ5 σ).1 75 9)) 75 0 (v1 + (1 : Int32))) (fun σ6 =>
  (¬ (76 : Nat) = 0 ∧
  (Di d 190 [.ref 75, .int (17 : Int32), .long (0 : Int64), .int ((sW σ5 σ).1 88 10), .int (0 : Int32)] (sW σ6 σ) (fun x8 σ7 =>
  (Dv d 185 [.ref 88, .int (59 : Int32)] (sW σ7 σ) (fun σ9 =>
  Q none (sW σ9 σ))))))))))))))))))))))))) :
  Wq 184 (d + 1) 159 [some (.ref 88), some (.int v1), some (.int v2), none, none] [] σ Q := by
  rw [← sR_eta h88_0] at h ⊢
  exact fk_run_sound (B := B_Parser_definition) (C := C_Parser_definition) (n := 15) ok_Parser_definition h
def B_Parser_expect : fkB := [(0, [(.aload_n 0, 1, []), (.invokevirtual 60, 3, [183, 0, 1652, 0, 4, 7]), (.ifCond .ne 4, 3, [8])]),
  (7, [(.return_, 1, [])]),
  (8, [(.aload_n 0, 1, []), (.getfield 64, 3, [7, 9, 755, 0]), (.iload_n 1, 1, []), (.if_icmp .eq 8, 3, [21])]),
  (16, [(.aload_n 0, 1, []), (.invokevirtual 71, 3, [186, 0, 1664, 0, 3, 7]), (.return_, 1, [])]),
  (21, [(.aload_n 0, 1, []), (.invokevirtual 57, 3, [182, 0, 1648, 0, 3, 7]), (.return_, 1, [])])]
set_option maxRecDepth 100000 in
theorem ok_Parser_expect : fk_okM 185 B_Parser_expect = true := by decide +kernel
abbrev C_Parser_expect : fkC := []
set_option maxRecDepth 100000 in
set_option maxHeartbeats 4000000 in
theorem S_Parser_expect {d : Nat} {a0 : Int32} {σ : fkS} {Q : Option Value → fkS → Prop} 
  (h : (Di d 183 [.ref 88] σ (fun x2 σ1 =>
  ((¬ x2 = 0 →
    ((((sW σ1 σ).1 88 9) = a0 →
      (Dv d 182 [.ref 88] (sW σ1 σ) (fun σ3 =>
      Q none (sW σ3 σ)))) ∧
     (¬ ((sW σ1 σ).1 88 9) = a0 →
      (Dv d 186 [.ref 88] (sW σ1 σ) (fun σ4 =>
      Q none (sW σ4 σ)))))) ∧
   (x2 = 0 →
    Q none (sW σ1 σ)))))) :
  Cl (d + 1) 185 [.ref 88, .int a0] σ Q := by
  exact Cl.run B_Parser_expect C_Parser_expect 8 fk_q185 ok_Parser_expect rfl h
def B_Parser_fail : fkB := [(0, [(.aload_n 0, 1, []), (.getfield 51, 3, [7, 13, 759, 0]), (.ifCond .ge 11, 3, [15])]),
  (7, [(.aload_n 0, 1, []), (.aload_n 0, 1, []), (.getfield 74, 3, [7, 10, 756, 0]), (.putfield 51, 3, [7, 13, 759, 0])]),
  (15, [(.return_, 1, [])])]
set_option maxRecDepth 100000 in
theorem ok_Parser_fail : fk_okM 186 B_Parser_fail = true := by decide +kernel
abbrev C_Parser_fail : fkC := []
set_option maxRecDepth 100000 in
set_option maxHeartbeats 4000000 in
theorem S_Parser_fail {d : Nat}  {σ : fkS} {Q : Option Value → fkS → Prop} 
  (h : ((0 ≤ (σ.1 88 13) →
    Q none σ) ∧
   (¬ 0 ≤ (σ.1 88 13) →
    Q none (sI σ 88 13 (σ.1 88 10))))) :
  Cl d 186 [.ref 88] σ Q := by
  exact Cl.run B_Parser_fail C_Parser_fail 6 fk_q186 ok_Parser_fail rfl h
def B_Parser_type : fkB := [(0, [(.aload_n 0, 1, []), (.invokevirtual 60, 3, [183, 0, 1652, 0, 4, 7]), (.ifCond .eq 21, 3, [25])]),
  (7, [(.aload_n 0, 1, []), (.getfield 64, 3, [7, 9, 755, 0]), (.bipush 15, 2, []), (.if_icmp .lt 12, 3, [25])]),
  (16, [(.aload_n 0, 1, []), (.getfield 64, 3, [7, 9, 755, 0]), (.bipush 17, 2, []), (.if_icmp .le 9, 3, [31])]),
  (25, [(.aload_n 0, 1, []), (.invokevirtual 71, 3, [186, 0, 1664, 0, 3, 7]), (.iconst 0, 1, []), (.ireturn, 1, [])]),
  (31, [(.aload_n 0, 1, []), (.getfield 64, 3, [7, 9, 755, 0]), (.bipush 15, 2, []), (.isub, 1, []), (.iconst 1, 1, []), (.iadd, 1, []), (.istore_n 1, 1, []), (.aload_n 0, 1, []), (.invokevirtual 57, 3, [182, 0, 1648, 0, 3, 7]), (.iload_n 1, 1, []), (.ireturn, 1, [])])]
set_option maxRecDepth 100000 in
theorem ok_Parser_type : fk_okM 187 B_Parser_type = true := by decide +kernel
abbrev C_Parser_type : fkC := []
set_option maxRecDepth 100000 in
set_option maxHeartbeats 4000000 in
theorem S_Parser_type {d : Nat}  {σ : fkS} {Q : Option Value → fkS → Prop} 
  (h : (Di d 183 [.ref 88] σ (fun x2 σ1 =>
  ((x2 = 0 →
    (Dv d 186 [.ref 88] (sW σ1 σ) (fun σ3 =>
    Q (some (.int (0 : Int32))) (sW σ3 σ)))) ∧
   (¬ x2 = 0 →
    ((((sW σ1 σ).1 88 9) < (15 : Int32) →
      (Dv d 186 [.ref 88] (sW σ1 σ) (fun σ4 =>
      Q (some (.int (0 : Int32))) (sW σ4 σ)))) ∧
     (¬ ((sW σ1 σ).1 88 9) < (15 : Int32) →
      ((((sW σ1 σ).1 88 9) ≤ (17 : Int32) →
        (Dv d 182 [.ref 88] (sW σ1 σ) (fun σ5 =>
        Q (some (.int ((((sW σ1 σ).1 88 9) - (15 : Int32)) + (1 : Int32)))) (sW σ5 σ)))) ∧
       (¬ ((sW σ1 σ).1 88 9) ≤ (17 : Int32) →
        (Dv d 186 [.ref 88] (sW σ1 σ) (fun σ6 =>
        Q (some (.int (0 : Int32))) (sW σ6 σ)))))))))))) :
  Cl (d + 1) 187 [.ref 88] σ Q := by
  exact Cl.run B_Parser_type C_Parser_type 8 fk_q187 ok_Parser_type rfl h
def B_Parser_expression : fkB := [(0, [(.aload_n 0, 1, []), (.invokevirtual 60, 3, [183, 0, 1652, 0, 4, 7]), (.ifCond .ne 4, 3, [8])]),
  (7, [(.return_, 1, [])]),
  (8, [(.iload_n 1, 1, []), (.bipush 30, 2, []), (.if_icmp .le 8, 3, [19])]),
  (14, [(.aload_n 0, 1, []), (.invokevirtual 71, 3, [186, 0, 1664, 0, 3, 7]), (.return_, 1, [])]),
  (19, [(.aload_n 0, 1, []), (.getfield 64, 3, [7, 9, 755, 0]), (.iconst 5, 1, []), (.if_icmp .ne 11, 3, [35])]),
  (27, [(.aload_n 0, 1, []), (.iload_n 1, 1, []), (.invokevirtual 191, 3, [189, 1, 1676, 0, 3, 7]), (.goto 43, 3, [75])]),
  (35, [(.aload_n 0, 1, []), (.getfield 64, 3, [7, 9, 755, 0]), (.bipush 7, 2, []), (.if_icmp .ne 11, 3, [52])]),
  (44, [(.aload_n 0, 1, []), (.iload_n 1, 1, []), (.invokevirtual 194, 3, [191, 1, 1684, 0, 3, 7]), (.goto 26, 3, [75])]),
  (52, [(.aload_n 0, 1, []), (.getfield 64, 3, [7, 9, 755, 0]), (.bipush 10, 2, []), (.if_icmp .ne 11, 3, [69])]),
  (61, [(.aload_n 0, 1, []), (.iload_n 1, 1, []), (.invokevirtual 197, 3, [194, 1, 1696, 0, 3, 7]), (.goto 9, 3, [75])]),
  (69, [(.aload_n 0, 1, []), (.iconst 0, 1, []), (.iload_n 1, 1, []), (.invokevirtual 200, 3, [196, 2, 1705, 0, 3, 7])]),
  (75, [(.return_, 1, [])])]
set_option maxRecDepth 100000 in
theorem ok_Parser_expression : fk_okM 188 B_Parser_expression = true := by decide +kernel
abbrev C_Parser_expression : fkC := []
set_option maxRecDepth 100000 in
set_option maxHeartbeats 4000000 in
theorem S_Parser_expression {d : Nat} {a0 : Int32} {σ : fkS} {Q : Option Value → fkS → Prop} 
  (h : (Di d 183 [.ref 88] σ (fun x2 σ1 =>
  ((¬ x2 = 0 →
    ((a0 ≤ (30 : Int32) →
      ((¬ ((sW σ1 σ).1 88 9) = (5 : Int32) →
        ((¬ ((sW σ1 σ).1 88 9) = (7 : Int32) →
          ((¬ ((sW σ1 σ).1 88 9) = (10 : Int32) →
            (Dv d 196 [.ref 88, .int (0 : Int32), .int a0] (sW σ1 σ) (fun σ3 =>
            Q none (sW σ3 σ)))) ∧
           (((sW σ1 σ).1 88 9) = (10 : Int32) →
            (Dv d 194 [.ref 88, .int a0] (sW σ1 σ) (fun σ4 =>
            Q none (sW σ4 σ)))))) ∧
         (((sW σ1 σ).1 88 9) = (7 : Int32) →
          (Dv d 191 [.ref 88, .int a0] (sW σ1 σ) (fun σ5 =>
          Q none (sW σ5 σ)))))) ∧
       (((sW σ1 σ).1 88 9) = (5 : Int32) →
        (Dv d 189 [.ref 88, .int a0] (sW σ1 σ) (fun σ6 =>
        Q none (sW σ6 σ)))))) ∧
     (¬ a0 ≤ (30 : Int32) →
      (Dv d 186 [.ref 88] (sW σ1 σ) (fun σ7 =>
      Q none (sW σ7 σ)))))) ∧
   (x2 = 0 →
    Q none (sW σ1 σ)))))) :
  Cl (d + 1) 188 [.ref 88, .int a0] σ Q := by
  exact Cl.run B_Parser_expression C_Parser_expression 15 fk_q188 ok_Parser_expression rfl h
def B_Parser_letIn : fkB := [(0, [(.aload_n 0, 1, []), (.invokevirtual 57, 3, [182, 0, 1648, 0, 3, 7]), (.aload_n 0, 1, []), (.getfield 96, 3, [7, 11, 757, 0]), (.lstore_n 2, 1, []), (.aload_n 0, 1, []), (.iconst 1, 1, []), (.invokevirtual 149, 3, [185, 1, 1660, 0, 3, 7]), (.aload_n 0, 1, []), (.bipush 61, 2, []), (.invokevirtual 149, 3, [185, 1, 1660, 0, 3, 7]), (.aload_n 0, 1, []), (.iload_n 1, 1, []), (.iconst 1, 1, []), (.iadd, 1, []), (.invokevirtual 184, 3, [188, 1, 1672, 0, 3, 7]), (.aload_n 0, 1, []), (.bipush 6, 2, []), (.invokevirtual 149, 3, [185, 1, 1660, 0, 3, 7]), (.aload_n 0, 1, []), (.getfield 11, 3, [7, 0, 746, 0]), (.bipush 12, 2, []), (.lload_n 2, 1, []), (.iconst 0, 1, []), (.iconst 1, 1, []), (.invokevirtual 187, 3, [190, 4, 1680, 1, 4, 8]), (.pop, 1, []), (.aload_n 0, 1, []), (.iload_n 1, 1, []), (.iconst 1, 1, []), (.iadd, 1, []), (.invokevirtual 184, 3, [188, 1, 1672, 0, 3, 7]), (.aload_n 0, 1, []), (.getfield 11, 3, [7, 0, 746, 0]), (.bipush 13, 2, []), (.lconst 1, 1, []), (.iconst 0, 1, []), (.iconst 0, 1, []), (.invokevirtual 187, 3, [190, 4, 1680, 1, 4, 8]), (.pop, 1, []), (.return_, 1, [])])]
set_option maxRecDepth 100000 in
theorem ok_Parser_letIn : fk_okM 189 B_Parser_letIn = true := by decide +kernel
abbrev C_Parser_letIn : fkC := []
set_option maxRecDepth 100000 in
set_option maxHeartbeats 4000000 in
theorem S_Parser_letIn {d : Nat} {a0 : Int32} {σ : fkS} {Q : Option Value → fkS → Prop} (h88_0 : σ.2.2 88 0 = 76)
  (h : (Dv d 182 [.ref 88] σ (fun σ1 =>
  (Dv d 185 [.ref 88, .int (1 : Int32)] (sW σ1 σ) (fun σ2 =>
  (Dv d 185 [.ref 88, .int (61 : Int32)] (sW σ2 σ) (fun σ3 =>
  (Dv d 188 [.ref 88, .int (a0 + (1 : Int32))] (sW σ3 σ) (fun σ4 =>
  (Dv d 185 [.ref 88, .int (6 : Int32)] (sW σ4 σ) (fun σ5 =>
  (¬ (76 : Nat) = 0 ∧
  (Di d 190 [.ref 75, .int (12 : Int32), .long ((sW σ1 σ).2.1 88 11), .int (0 : Int32), .int (1 : Int32)] (sW σ5 σ) (fun x7 σ6 =>
  (Dv d 188 [.ref 88, .int (a0 + (1 : Int32))] (sW σ6 σ) (fun σ8 =>
  (¬ (76 : Nat) = 0 ∧
  (Di d 190 [.ref 75, .int (13 : Int32), .long (1 : Int64), .int (0 : Int32), .int (0 : Int32)] (sW σ8 σ) (fun x10 σ9 =>
  Q none (sW σ9 σ)))))))))))))))))))) :
  Cl (d + 1) 189 [.ref 88, .int a0] σ Q := by
  rw [← sR_eta h88_0] at h ⊢
  exact Cl.run B_Parser_letIn C_Parser_letIn 4 fk_q189 ok_Parser_letIn rfl h
def B_Program_add : fkB := [(0, [(.aload_n 0, 1, []), (.getfield 51, 3, [8, 9, 697, 0]), (.sipush 3000, 3, []), (.if_icmp .lt 7, 3, [14])]),
  (10, [(.sipush 2999, 3, []), (.ireturn, 1, [])]),
  (14, [(.aload_n 0, 1, []), (.getfield 35, 3, [8, 10, 701, 0]), (.aload_n 0, 1, []), (.getfield 51, 3, [8, 9, 697, 0]), (.iload_n 1, 1, []), (.iastore, 1, []), (.aload_n 0, 1, []), (.getfield 38, 3, [8, 11, 704, 0]), (.aload_n 0, 1, []), (.getfield 51, 3, [8, 9, 697, 0]), (.lload_n 2, 1, []), (.lastore, 1, []), (.aload_n 0, 1, []), (.getfield 41, 3, [8, 12, 707, 0]), (.aload_n 0, 1, []), (.getfield 51, 3, [8, 9, 697, 0]), (.iload 4, 2, []), (.iastore, 1, []), (.aload_n 0, 1, []), (.getfield 44, 3, [8, 13, 709, 0]), (.aload_n 0, 1, []), (.getfield 51, 3, [8, 9, 697, 0]), (.iload 5, 2, []), (.iastore, 1, []), (.aload_n 0, 1, []), (.dup, 1, []), (.getfield 51, 3, [8, 9, 697, 0]), (.iconst 1, 1, []), (.iadd, 1, []), (.putfield 51, 3, [8, 9, 697, 0]), (.aload_n 0, 1, []), (.getfield 51, 3, [8, 9, 697, 0]), (.iconst 1, 1, []), (.isub, 1, []), (.ireturn, 1, [])])]
set_option maxRecDepth 100000 in
theorem ok_Program_add : fk_okM 190 B_Program_add = true := by decide +kernel
abbrev C_Program_add : fkC := []
set_option maxRecDepth 100000 in
set_option maxHeartbeats 4000000 in
theorem S_Program_add {d : Nat} {a0 : Int32} {a1 : Int64} {a2 : Int32} {a3 : Int32} {σ : fkS} {Q : Option Value → fkS → Prop} 
  (h : (((σ.1 75 9) < (3000 : Int32) →
    (vp_in (σ.1 75 9) 3000 ∧
    (vp_in (σ.1 75 9) 3000 ∧
    (vp_in (σ.1 75 9) 3000 ∧
    (vp_in (σ.1 75 9) 3000 ∧
    Q (some (.int (((σ.1 75 9) + (1 : Int32)) - (1 : Int32)))) (sI (sI (sI (sL (sI σ 84 ((σ.1 75 9).toNatClampNeg) a0) 85 ((σ.1 75 9).toNatClampNeg) a1) 86 ((σ.1 75 9).toNatClampNeg) a2) 87 ((σ.1 75 9).toNatClampNeg) a3) 75 9 ((σ.1 75 9) + (1 : Int32)))))))) ∧
   (¬ (σ.1 75 9) < (3000 : Int32) →
    Q (some (.int (2999 : Int32))) σ))) :
  Cl d 190 [.ref 75, .int a0, .long a1, .int a2, .int a3] σ Q := by
  exact Cl.run B_Program_add C_Program_add 6 fk_q190 ok_Program_add rfl h
def B_Parser_ifElse : fkB := [(0, [(.aload_n 0, 1, []), (.invokevirtual 57, 3, [182, 0, 1648, 0, 3, 7]), (.aload_n 0, 1, []), (.iconst 1, 1, []), (.iload_n 1, 1, []), (.iconst 1, 1, []), (.iadd, 1, []), (.invokevirtual 204, 3, [192, 2, 1688, 0, 3, 7]), (.aload_n 0, 1, []), (.bipush 8, 2, []), (.invokevirtual 149, 3, [185, 1, 1660, 0, 3, 7]), (.aload_n 0, 1, []), (.getfield 11, 3, [7, 0, 746, 0]), (.bipush 8, 2, []), (.lconst 0, 1, []), (.iconst 0, 1, []), (.iconst 0, 1, []), (.invokevirtual 187, 3, [190, 4, 1680, 1, 4, 8]), (.istore_n 2, 1, []), (.aload_n 0, 1, []), (.iload_n 1, 1, []), (.iconst 1, 1, []), (.iadd, 1, []), (.invokevirtual 184, 3, [188, 1, 1672, 0, 3, 7]), (.aload_n 0, 1, []), (.bipush 9, 2, []), (.invokevirtual 149, 3, [185, 1, 1660, 0, 3, 7]), (.aload_n 0, 1, []), (.getfield 11, 3, [7, 0, 746, 0]), (.bipush 9, 2, []), (.lconst 0, 1, []), (.iconst 0, 1, []), (.iconst 0, 1, []), (.invokevirtual 187, 3, [190, 4, 1680, 1, 4, 8]), (.istore_n 3, 1, []), (.aload_n 0, 1, []), (.getfield 11, 3, [7, 0, 746, 0]), (.iload_n 2, 1, []), (.invokevirtual 207, 3, [193, 1, 1692, 1, 3, 8]), (.aload_n 0, 1, []), (.getfield 74, 3, [7, 10, 756, 0]), (.istore 4, 2, []), (.aload_n 0, 1, []), (.iload_n 1, 1, []), (.iconst 1, 1, []), (.iadd, 1, []), (.invokevirtual 184, 3, [188, 1, 1672, 0, 3, 7]), (.aload_n 0, 1, []), (.getfield 11, 3, [7, 0, 746, 0]), (.bipush 16, 2, []), (.lconst 0, 1, []), (.iload 4, 2, []), (.iconst 0, 1, []), (.invokevirtual 187, 3, [190, 4, 1680, 1, 4, 8]), (.pop, 1, []), (.aload_n 0, 1, []), (.getfield 11, 3, [7, 0, 746, 0]), (.iload_n 3, 1, []), (.invokevirtual 207, 3, [193, 1, 1692, 1, 3, 8]), (.return_, 1, [])])]
set_option maxRecDepth 100000 in
theorem ok_Parser_ifElse : fk_okM 191 B_Parser_ifElse = true := by decide +kernel
abbrev C_Parser_ifElse : fkC := []
set_option maxRecDepth 100000 in
set_option maxHeartbeats 4000000 in
theorem S_Parser_ifElse {d : Nat} {a0 : Int32} {σ : fkS} {Q : Option Value → fkS → Prop} (h88_0 : σ.2.2 88 0 = 76)
  (h : (Dv d 182 [.ref 88] σ (fun σ1 =>
  (Dv d 192 [.ref 88, .int (1 : Int32), .int (a0 + (1 : Int32))] (sW σ1 σ) (fun σ2 =>
  (Dv d 185 [.ref 88, .int (8 : Int32)] (sW σ2 σ) (fun σ3 =>
  (¬ (76 : Nat) = 0 ∧
  (Di d 190 [.ref 75, .int (8 : Int32), .long (0 : Int64), .int (0 : Int32), .int (0 : Int32)] (sW σ3 σ) (fun x5 σ4 =>
  (Dv d 188 [.ref 88, .int (a0 + (1 : Int32))] (sW σ4 σ) (fun σ6 =>
  (Dv d 185 [.ref 88, .int (9 : Int32)] (sW σ6 σ) (fun σ7 =>
  (¬ (76 : Nat) = 0 ∧
  (Di d 190 [.ref 75, .int (9 : Int32), .long (0 : Int64), .int (0 : Int32), .int (0 : Int32)] (sW σ7 σ) (fun x9 σ8 =>
  (¬ (76 : Nat) = 0 ∧
  (Dv d 193 [.ref 75, .int x5] (sW σ8 σ) (fun σ10 =>
  (Dv d 188 [.ref 88, .int (a0 + (1 : Int32))] (sW σ10 σ) (fun σ11 =>
  (¬ (76 : Nat) = 0 ∧
  (Di d 190 [.ref 75, .int (16 : Int32), .long (0 : Int64), .int ((sW σ10 σ).1 88 10), .int (0 : Int32)] (sW σ11 σ) (fun x13 σ12 =>
  (¬ (76 : Nat) = 0 ∧
  (Dv d 193 [.ref 75, .int x9] (sW σ12 σ) (fun σ14 =>
  Q none (sW σ14 σ))))))))))))))))))))))))))))) :
  Cl (d + 1) 191 [.ref 88, .int a0] σ Q := by
  rw [← sR_eta h88_0] at h ⊢
  exact Cl.run B_Parser_ifElse C_Parser_ifElse 4 fk_q191 ok_Parser_ifElse rfl h
def B_Parser_wanted : fkB := [(0, [(.aload_n 0, 1, []), (.getfield 74, 3, [7, 10, 756, 0]), (.istore_n 3, 1, []), (.aload_n 0, 1, []), (.iload_n 2, 1, []), (.invokevirtual 184, 3, [188, 1, 1672, 0, 3, 7]), (.aload_n 0, 1, []), (.getfield 11, 3, [7, 0, 746, 0]), (.bipush 14, 2, []), (.iload_n 1, 1, []), (.i2l, 1, []), (.iload_n 3, 1, []), (.iconst 0, 1, []), (.invokevirtual 187, 3, [190, 4, 1680, 1, 4, 8]), (.pop, 1, []), (.return_, 1, [])])]
set_option maxRecDepth 100000 in
theorem ok_Parser_wanted : fk_okM 192 B_Parser_wanted = true := by decide +kernel
abbrev C_Parser_wanted : fkC := []
set_option maxRecDepth 100000 in
set_option maxHeartbeats 4000000 in
theorem S_Parser_wanted {d : Nat} {a0 : Int32} {a1 : Int32} {σ : fkS} {Q : Option Value → fkS → Prop} (h88_0 : σ.2.2 88 0 = 76)
  (h : (Dv d 188 [.ref 88, .int a1] σ (fun σ1 =>
  (¬ (76 : Nat) = 0 ∧
  (Di d 190 [.ref 75, .int (14 : Int32), .long a0.toInt64, .int (σ.1 88 10), .int (0 : Int32)] (sW σ1 σ) (fun x3 σ2 =>
  Q none (sW σ2 σ))))))) :
  Cl (d + 1) 192 [.ref 88, .int a0, .int a1] σ Q := by
  rw [← sR_eta h88_0] at h ⊢
  exact Cl.run B_Parser_wanted C_Parser_wanted 4 fk_q192 ok_Parser_wanted rfl h
def B_Program_land : fkB := [(0, [(.aload_n 0, 1, []), (.getfield 38, 3, [8, 11, 704, 0]), (.iload_n 1, 1, []), (.aload_n 0, 1, []), (.getfield 51, 3, [8, 9, 697, 0]), (.i2l, 1, []), (.lastore, 1, []), (.return_, 1, [])])]
set_option maxRecDepth 100000 in
theorem ok_Program_land : fk_okM 193 B_Program_land = true := by decide +kernel
abbrev C_Program_land : fkC := []
set_option maxRecDepth 100000 in
set_option maxHeartbeats 4000000 in
theorem S_Program_land {d : Nat} {a0 : Int32} {σ : fkS} {Q : Option Value → fkS → Prop} 
  (h : (vp_in a0 3000 ∧
  Q none (sL σ 85 a0.toNatClampNeg ((σ.1 75 9).toInt64)))) :
  Cl d 193 [.ref 75, .int a0] σ Q := by
  exact Cl.run B_Program_land C_Program_land 4 fk_q193 ok_Program_land rfl h
def B_Parser_match : fkB := [(0, [(.aload_n 0, 1, []), (.invokevirtual 57, 3, [182, 0, 1648, 0, 3, 7]), (.aload_n 0, 1, []), (.iconst 2, 1, []), (.iload_n 1, 1, []), (.iconst 1, 1, []), (.iadd, 1, []), (.invokevirtual 204, 3, [192, 2, 1688, 0, 3, 7]), (.aload_n 0, 1, []), (.bipush 11, 2, []), (.invokevirtual 149, 3, [185, 1, 1660, 0, 3, 7]), (.aload_n 0, 1, []), (.bipush 12, 2, []), (.invokevirtual 149, 3, [185, 1, 1660, 0, 3, 7]), (.aload_n 0, 1, []), (.sipush 129, 3, []), (.invokevirtual 149, 3, [185, 1, 1660, 0, 3, 7]), (.aload_n 0, 1, []), (.getfield 11, 3, [7, 0, 746, 0]), (.bipush 10, 2, []), (.lconst 0, 1, []), (.iconst 0, 1, []), (.iconst 0, 1, []), (.invokevirtual 187, 3, [190, 4, 1680, 1, 4, 8]), (.istore_n 2, 1, []), (.aload_n 0, 1, []), (.iload_n 1, 1, []), (.iconst 1, 1, []), (.iadd, 1, []), (.invokevirtual 184, 3, [188, 1, 1672, 0, 3, 7]), (.aload_n 0, 1, []), (.bipush 124, 2, []), (.invokevirtual 149, 3, [185, 1, 1660, 0, 3, 7]), (.aload_n 0, 1, []), (.getfield 11, 3, [7, 0, 746, 0]), (.bipush 9, 2, []), (.lconst 0, 1, []), (.iconst 0, 1, []), (.iconst 0, 1, []), (.invokevirtual 187, 3, [190, 4, 1680, 1, 4, 8]), (.istore_n 3, 1, []), (.aload_n 0, 1, []), (.getfield 11, 3, [7, 0, 746, 0]), (.iload_n 2, 1, []), (.invokevirtual 207, 3, [193, 1, 1692, 1, 3, 8]), (.aload_n 0, 1, []), (.getfield 11, 3, [7, 0, 746, 0]), (.bipush 11, 2, []), (.lconst 0, 1, []), (.iconst 0, 1, []), (.iconst 0, 1, []), (.invokevirtual 187, 3, [190, 4, 1680, 1, 4, 8]), (.pop, 1, []), (.aload_n 0, 1, []), (.iconst 2, 1, []), (.invokevirtual 210, 3, [195, 1, 1700, 0, 3, 7]), (.aload_n 0, 1, []), (.bipush 44, 2, []), (.invokevirtual 149, 3, [185, 1, 1660, 0, 3, 7]), (.aload_n 0, 1, []), (.iconst 1, 1, []), (.invokevirtual 210, 3, [195, 1, 1700, 0, 3, 7]), (.aload_n 0, 1, []), (.sipush 129, 3, []), (.invokevirtual 149, 3, [185, 1, 1660, 0, 3, 7]), (.aload_n 0, 1, []), (.getfield 74, 3, [7, 10, 756, 0]), (.istore 4, 2, []), (.aload_n 0, 1, []), (.iload_n 1, 1, []), (.iconst 1, 1, []), (.iadd, 1, []), (.invokevirtual 184, 3, [188, 1, 1672, 0, 3, 7]), (.aload_n 0, 1, []), (.getfield 11, 3, [7, 0, 746, 0]), (.bipush 13, 2, []), (.ldc2_w 213, 3, [2, 1704]), (.iconst 0, 1, []), (.iconst 0, 1, []), (.invokevirtual 187, 3, [190, 4, 1680, 1, 4, 8]), (.pop, 1, []), (.aload_n 0, 1, []), (.getfield 11, 3, [7, 0, 746, 0]), (.bipush 16, 2, []), (.lconst 0, 1, []), (.iload 4, 2, []), (.iconst 0, 1, []), (.invokevirtual 187, 3, [190, 4, 1680, 1, 4, 8]), (.pop, 1, []), (.aload_n 0, 1, []), (.getfield 11, 3, [7, 0, 746, 0]), (.iload_n 3, 1, []), (.invokevirtual 207, 3, [193, 1, 1692, 1, 3, 8]), (.return_, 1, [])])]
set_option maxRecDepth 100000 in
theorem ok_Parser_match : fk_okM 194 B_Parser_match = true := by decide +kernel
abbrev C_Parser_match : fkC := []
set_option maxRecDepth 100000 in
set_option maxHeartbeats 4000000 in
theorem S_Parser_match {d : Nat} {a0 : Int32} {σ : fkS} {Q : Option Value → fkS → Prop} (h88_0 : σ.2.2 88 0 = 76)
  (h : (Dv d 182 [.ref 88] σ (fun σ1 =>
  (Dv d 192 [.ref 88, .int (2 : Int32), .int (a0 + (1 : Int32))] (sW σ1 σ) (fun σ2 =>
  (Dv d 185 [.ref 88, .int (11 : Int32)] (sW σ2 σ) (fun σ3 =>
  (Dv d 185 [.ref 88, .int (12 : Int32)] (sW σ3 σ) (fun σ4 =>
  (Dv d 185 [.ref 88, .int (129 : Int32)] (sW σ4 σ) (fun σ5 =>
  (¬ (76 : Nat) = 0 ∧
  (Di d 190 [.ref 75, .int (10 : Int32), .long (0 : Int64), .int (0 : Int32), .int (0 : Int32)] (sW σ5 σ) (fun x7 σ6 =>
  (Dv d 188 [.ref 88, .int (a0 + (1 : Int32))] (sW σ6 σ) (fun σ8 =>
  (Dv d 185 [.ref 88, .int (124 : Int32)] (sW σ8 σ) (fun σ9 =>
  (¬ (76 : Nat) = 0 ∧
  (Di d 190 [.ref 75, .int (9 : Int32), .long (0 : Int64), .int (0 : Int32), .int (0 : Int32)] (sW σ9 σ) (fun x11 σ10 =>
  (¬ (76 : Nat) = 0 ∧
  (Dv d 193 [.ref 75, .int x7] (sW σ10 σ) (fun σ12 =>
  (¬ (76 : Nat) = 0 ∧
  (Di d 190 [.ref 75, .int (11 : Int32), .long (0 : Int64), .int (0 : Int32), .int (0 : Int32)] (sW σ12 σ) (fun x14 σ13 =>
  (Dv d 195 [.ref 88, .int (2 : Int32)] (sW σ13 σ) (fun σ15 =>
  (Dv d 185 [.ref 88, .int (44 : Int32)] (sW σ15 σ) (fun σ16 =>
  (Dv d 195 [.ref 88, .int (1 : Int32)] (sW σ16 σ) (fun σ17 =>
  (Dv d 185 [.ref 88, .int (129 : Int32)] (sW σ17 σ) (fun σ18 =>
  (Dv d 188 [.ref 88, .int (a0 + (1 : Int32))] (sW σ18 σ) (fun σ19 =>
  (¬ (76 : Nat) = 0 ∧
  (Di d 190 [.ref 75, .int (13 : Int32), .long (2 : Int64), .int (0 : Int32), .int (0 : Int32)] (sW σ19 σ) (fun x21 σ20 =>
  (¬ (76 : Nat) = 0 ∧
  (Di d 190 [.ref 75, .int (16 : Int32), .long (0 : Int64), .int ((sW σ18 σ).1 88 10), .int (0 : Int32)] (sW σ20 σ) (fun x23 σ22 =>
  (¬ (76 : Nat) = 0 ∧
  (Dv d 193 [.ref 75, .int x11] (sW σ22 σ) (fun σ24 =>
  Q none (sW σ24 σ))))))))))))))))))))))))))))))))))))))))))))))) :
  Cl (d + 1) 194 [.ref 88, .int a0] σ Q := by
  rw [← sR_eta h88_0] at h ⊢
  exact Cl.run B_Parser_match C_Parser_match 4 fk_q194 ok_Parser_match rfl h
def B_Parser_bindPart : fkB := [(0, [(.aload_n 0, 1, []), (.getfield 11, 3, [7, 0, 746, 0]), (.bipush 12, 2, []), (.aload_n 0, 1, []), (.getfield 96, 3, [7, 11, 757, 0]), (.iconst 0, 1, []), (.iload_n 1, 1, []), (.invokevirtual 187, 3, [190, 4, 1680, 1, 4, 8]), (.pop, 1, []), (.aload_n 0, 1, []), (.iconst 1, 1, []), (.invokevirtual 149, 3, [185, 1, 1660, 0, 3, 7]), (.return_, 1, [])])]
set_option maxRecDepth 100000 in
theorem ok_Parser_bindPart : fk_okM 195 B_Parser_bindPart = true := by decide +kernel
abbrev C_Parser_bindPart : fkC := []
set_option maxRecDepth 100000 in
set_option maxHeartbeats 4000000 in
theorem S_Parser_bindPart {d : Nat} {a0 : Int32} {σ : fkS} {Q : Option Value → fkS → Prop} (h88_0 : σ.2.2 88 0 = 76)
  (h : (¬ (76 : Nat) = 0 ∧
  (Di d 190 [.ref 75, .int (12 : Int32), .long (σ.2.1 88 11), .int (0 : Int32), .int a0] σ (fun x2 σ1 =>
  (Dv d 185 [.ref 88, .int (1 : Int32)] (sW σ1 σ) (fun σ3 =>
  Q none (sW σ3 σ))))))) :
  Cl (d + 1) 195 [.ref 88, .int a0] σ Q := by
  rw [← sR_eta h88_0] at h ⊢
  exact Cl.run B_Parser_bindPart C_Parser_bindPart 4 fk_q195 ok_Parser_bindPart rfl h
def B_Parser_parts : fkB := [(0, [(.iload_n 1, 1, []), (.ifCond .ne 7, 3, [8])]),
  (4, [(.iconst 2, 1, []), (.goto 6, 3, [11])]),
  (8, [(.sipush 401, 3, [])]),
  (11, [(.istore_n 3, 1, []), (.iconst 0, 1, []), (.istore 4, 2, []), (.iconst 1, 1, []), (.istore 5, 2, []), (.iconst 1, 1, []), (.istore 6, 2, [])]),
  (21, [(.iload 6, 2, []), (.iload_n 3, 1, []), (.if_icmp .gt 129, 3, [153])]),
  (27, [(.iload 5, 2, []), (.ifCond .eq 124, 3, [153])]),
  (32, [(.aload_n 0, 1, []), (.getfield 74, 3, [7, 10, 756, 0]), (.istore 7, 2, []), (.iload_n 1, 1, []), (.iconst 2, 1, []), (.if_icmp .ne 11, 3, [51])]),
  (43, [(.aload_n 0, 1, []), (.iload_n 2, 1, []), (.invokevirtual 215, 3, [197, 1, 1709, 0, 3, 7]), (.goto 11, 3, [59])]),
  (51, [(.aload_n 0, 1, []), (.iload_n 1, 1, []), (.iconst 1, 1, []), (.iadd, 1, []), (.iload_n 2, 1, []), (.invokevirtual 200, 3, [196, 2, 1705, 0, 3, 7])]),
  (59, [(.aload_n 0, 1, []), (.invokevirtual 60, 3, [183, 0, 1652, 0, 4, 7]), (.ifCond .eq 24, 3, [87])]),
  (66, [(.iload 6, 2, []), (.iload_n 3, 1, []), (.if_icmp .ge 18, 3, [87])]),
  (72, [(.aload_n 0, 1, []), (.getfield 64, 3, [7, 9, 755, 0]), (.invokestatic 218, 3, [202, 1, 1729, 0, 4]), (.iload_n 1, 1, []), (.if_icmp .ne 7, 3, [87])]),
  (83, [(.iconst 1, 1, []), (.goto 4, 3, [88])]),
  (87, [(.iconst 0, 1, [])]),
  (88, [(.istore 5, 2, []), (.iload 5, 2, []), (.ifCond .ne 8, 3, [100])]),
  (95, [(.iload 4, 2, []), (.ifCond .eq 17, 3, [114])]),
  (100, [(.aload_n 0, 1, []), (.getfield 11, 3, [7, 0, 746, 0]), (.bipush 14, 2, []), (.lconst 1, 1, []), (.iload 7, 2, []), (.iconst 0, 1, []), (.invokevirtual 187, 3, [190, 4, 1680, 1, 4, 8]), (.pop, 1, [])]),
  (114, [(.iload 4, 2, []), (.ifCond .eq 16, 3, [132])]),
  (119, [(.aload_n 0, 1, []), (.getfield 11, 3, [7, 0, 746, 0]), (.iload 4, 2, []), (.lconst 0, 1, []), (.iconst 0, 1, []), (.iconst 0, 1, []), (.invokevirtual 187, 3, [190, 4, 1680, 1, 4, 8]), (.pop, 1, [])]),
  (132, [(.iload 5, 2, []), (.ifCond .eq 13, 3, [147])]),
  (137, [(.aload_n 0, 1, []), (.getfield 64, 3, [7, 9, 755, 0]), (.istore 4, 2, []), (.aload_n 0, 1, []), (.invokevirtual 57, 3, [182, 0, 1648, 0, 3, 7])]),
  (147, [(.iinc 6 1, 3, []), (.goto (-129), 3, [21])]),
  (153, [(.return_, 1, [])])]
set_option maxRecDepth 100000 in
theorem ok_Parser_parts : fk_okM 196 B_Parser_parts = true := by decide +kernel
abbrev C_Parser_parts : fkC := [(21, [true, true, true, true, true, true, true, false]), (59, [true, true, true, true, true, false, true, true]), (87, [true, true, true, true, true, false, true, true]), (114, [true, true, true, true, true, true, true, false])]
set_option maxRecDepth 100000 in
set_option maxHeartbeats 4000000 in
theorem S_Parser_parts {d : Nat} {a0 : Int32} {a1 : Int32} {σ : fkS} {Q : Option Value → fkS → Prop} 
  (h : ((¬ a0 = 0 →
    Wq 196 (d + 1) 21 [some (.ref 88), some (.int a0), some (.int a1), some (.int (401 : Int32)), some (.int (0 : Int32)), some (.int (1 : Int32)), some (.int (1 : Int32)), none] [] σ Q) ∧
   (a0 = 0 →
    Wq 196 (d + 1) 21 [some (.ref 88), some (.int a0), some (.int a1), some (.int (2 : Int32)), some (.int (0 : Int32)), some (.int (1 : Int32)), some (.int (1 : Int32)), none] [] σ Q))) :
  Cl (d + 1) 196 [.ref 88, .int a0, .int a1] σ Q := by
  exact Cl.run B_Parser_parts C_Parser_parts 26 fk_q196 ok_Parser_parts rfl h
set_option maxRecDepth 100000 in
set_option maxHeartbeats 4000000 in
theorem S_Parser_parts_21 {d : Nat} {v1 : Int32} {v2 : Int32} {v3 : Int32} {v4 : Int32} {v5 : Int32} {v6 : Int32} {σ : fkS} {Q : Option Value → fkS → Prop} 
  (h : ((v3 < v6 →
    Q none σ) ∧
   (¬ v3 < v6 →
    ((v5 = 0 →
      Q none σ) ∧
     (¬ v5 = 0 →
      ((¬ v1 = (2 : Int32) →
        (Dv d 196 [.ref 88, .int (v1 + (1 : Int32)), .int v2] σ (fun σ1 =>
        Wq 196 (d + 1) 59 [some (.ref 88), some (.int v1), some (.int v2), some (.int v3), some (.int v4), none, some (.int v6), some (.int (σ.1 88 10))] [] (sW σ1 σ) Q))) ∧
       (v1 = (2 : Int32) →
        (Dv d 197 [.ref 88, .int v2] σ (fun σ2 =>
        Wq 196 (d + 1) 59 [some (.ref 88), some (.int v1), some (.int v2), some (.int v3), some (.int v4), none, some (.int v6), some (.int (σ.1 88 10))] [] (sW σ2 σ) Q))))))))) :
  Wq 196 (d + 1) 21 [some (.ref 88), some (.int v1), some (.int v2), some (.int v3), some (.int v4), some (.int v5), some (.int v6), none] [] σ Q := by
  exact fk_run_sound (B := B_Parser_parts) (C := C_Parser_parts) (n := 26) ok_Parser_parts h
set_option maxRecDepth 100000 in
set_option maxHeartbeats 4000000 in
theorem S_Parser_parts_59 {d : Nat} {v1 : Int32} {v2 : Int32} {v3 : Int32} {v4 : Int32} {v6 : Int32} {v7 : Int32} {σ : fkS} {Q : Option Value → fkS → Prop} (h88_0 : σ.2.2 88 0 = 76)
  (h : (Di d 183 [.ref 88] σ (fun x2 σ1 =>
  ((x2 = 0 →
    Wq 196 (d + 1) 87 [some (.ref 88), some (.int v1), some (.int v2), some (.int v3), some (.int v4), none, some (.int v6), some (.int v7)] [] (sW σ1 σ) Q) ∧
   (¬ x2 = 0 →
    ((v3 ≤ v6 →
      Wq 196 (d + 1) 87 [some (.ref 88), some (.int v1), some (.int v2), some (.int v3), some (.int v4), none, some (.int v6), some (.int v7)] [] (sW σ1 σ) Q) ∧
     (¬ v3 ≤ v6 →
      (Di d 202 [.int ((sW σ1 σ).1 88 9)] (sW σ1 σ) (fun x4 σ3 =>
      ((¬ x4 = v1 →
        Wq 196 (d + 1) 87 [some (.ref 88), some (.int v1), some (.int v2), some (.int v3), some (.int v4), none, some (.int v6), some (.int v7)] [] (sW σ3 σ) Q) ∧
       (x4 = v1 →
        ((¬ (1 : Int32) = 0 →
          (¬ (76 : Nat) = 0 ∧
          (Di d 190 [.ref 75, .int (14 : Int32), .long (1 : Int64), .int v7, .int (0 : Int32)] (sW σ3 σ) (fun x6 σ5 =>
          Wq 196 (d + 1) 114 [some (.ref 88), some (.int v1), some (.int v2), some (.int v3), some (.int v4), some (.int (1 : Int32)), some (.int v6), none] [] (sW σ5 σ) Q)))) ∧
         ((1 : Int32) = 0 →
          ((v4 = 0 →
            Wq 196 (d + 1) 114 [some (.ref 88), some (.int v1), some (.int v2), some (.int v3), some (.int v4), some (.int (1 : Int32)), some (.int v6), none] [] (sW σ3 σ) Q) ∧
           (¬ v4 = 0 →
            (¬ (76 : Nat) = 0 ∧
            (Di d 190 [.ref 75, .int (14 : Int32), .long (1 : Int64), .int v7, .int (0 : Int32)] (sW σ3 σ) (fun x8 σ7 =>
            Wq 196 (d + 1) 114 [some (.ref 88), some (.int v1), some (.int v2), some (.int v3), some (.int v4), some (.int (1 : Int32)), some (.int v6), none] [] (sW σ7 σ) Q)))))))))))))))))) :
  Wq 196 (d + 1) 59 [some (.ref 88), some (.int v1), some (.int v2), some (.int v3), some (.int v4), none, some (.int v6), some (.int v7)] [] σ Q := by
  rw [← sR_eta h88_0] at h ⊢
  exact fk_run_sound (B := B_Parser_parts) (C := C_Parser_parts) (n := 26) ok_Parser_parts h
set_option maxRecDepth 100000 in
set_option maxHeartbeats 4000000 in
theorem S_Parser_parts_87 {d : Nat} {v1 : Int32} {v2 : Int32} {v3 : Int32} {v4 : Int32} {v6 : Int32} {v7 : Int32} {σ : fkS} {Q : Option Value → fkS → Prop} (h88_0 : σ.2.2 88 0 = 76)
  (h : ((¬ (0 : Int32) = 0 →
    (¬ (76 : Nat) = 0 ∧
    (Di d 190 [.ref 75, .int (14 : Int32), .long (1 : Int64), .int v7, .int (0 : Int32)] σ (fun x2 σ1 =>
    Wq 196 (d + 1) 114 [some (.ref 88), some (.int v1), some (.int v2), some (.int v3), some (.int v4), some (.int (0 : Int32)), some (.int v6), none] [] (sW σ1 σ) Q)))) ∧
   ((0 : Int32) = 0 →
    ((v4 = 0 →
      Wq 196 (d + 1) 114 [some (.ref 88), some (.int v1), some (.int v2), some (.int v3), some (.int v4), some (.int (0 : Int32)), some (.int v6), none] [] σ Q) ∧
     (¬ v4 = 0 →
      (¬ (76 : Nat) = 0 ∧
      (Di d 190 [.ref 75, .int (14 : Int32), .long (1 : Int64), .int v7, .int (0 : Int32)] σ (fun x4 σ3 =>
      Wq 196 (d + 1) 114 [some (.ref 88), some (.int v1), some (.int v2), some (.int v3), some (.int v4), some (.int (0 : Int32)), some (.int v6), none] [] (sW σ3 σ) Q)))))))) :
  Wq 196 (d + 1) 87 [some (.ref 88), some (.int v1), some (.int v2), some (.int v3), some (.int v4), none, some (.int v6), some (.int v7)] [] σ Q := by
  rw [← sR_eta h88_0] at h ⊢
  exact fk_run_sound (B := B_Parser_parts) (C := C_Parser_parts) (n := 26) ok_Parser_parts h
set_option maxRecDepth 100000 in
set_option maxHeartbeats 4000000 in
theorem S_Parser_parts_114 {d : Nat} {v1 : Int32} {v2 : Int32} {v3 : Int32} {v4 : Int32} {v5 : Int32} {v6 : Int32} {σ : fkS} {Q : Option Value → fkS → Prop} (h88_0 : σ.2.2 88 0 = 76)
  (h : ((v4 = 0 →
    ((v5 = 0 →
      Wq 196 (d + 1) 21 [some (.ref 88), some (.int v1), some (.int v2), some (.int v3), some (.int v4), some (.int v5), some (.int (v6 + (1 : Int32))), none] [] σ Q) ∧
     (¬ v5 = 0 →
      (Dv d 182 [.ref 88] σ (fun σ1 =>
      Wq 196 (d + 1) 21 [some (.ref 88), some (.int v1), some (.int v2), some (.int v3), some (.int (σ.1 88 9)), some (.int v5), some (.int (v6 + (1 : Int32))), none] [] (sW σ1 σ) Q))))) ∧
   (¬ v4 = 0 →
    (¬ (76 : Nat) = 0 ∧
    (Di d 190 [.ref 75, .int v4, .long (0 : Int64), .int (0 : Int32), .int (0 : Int32)] σ (fun x3 σ2 =>
    ((v5 = 0 →
      Wq 196 (d + 1) 21 [some (.ref 88), some (.int v1), some (.int v2), some (.int v3), some (.int v4), some (.int v5), some (.int (v6 + (1 : Int32))), none] [] (sW σ2 σ) Q) ∧
     (¬ v5 = 0 →
      (Dv d 182 [.ref 88] (sW σ2 σ) (fun σ4 =>
      Wq 196 (d + 1) 21 [some (.ref 88), some (.int v1), some (.int v2), some (.int v3), some (.int ((sW σ2 σ).1 88 9)), some (.int v5), some (.int (v6 + (1 : Int32))), none] [] (sW σ4 σ) Q)))))))))) :
  Wq 196 (d + 1) 114 [some (.ref 88), some (.int v1), some (.int v2), some (.int v3), some (.int v4), some (.int v5), some (.int v6), none] [] σ Q := by
  rw [← sR_eta h88_0] at h ⊢
  exact fk_run_sound (B := B_Parser_parts) (C := C_Parser_parts) (n := 26) ok_Parser_parts h
def B_Parser_atom : fkB := [(0, [(.iconst 0, 1, []), (.istore_n 2, 1, []), (.aload_n 0, 1, []), (.invokevirtual 221, 3, [198, 0, 1713, 0, 3, 7])]),
  (6, [(.aload_n 0, 1, []), (.invokevirtual 60, 3, [183, 0, 1652, 0, 4, 7]), (.ifCond .eq 33, 3, [43])]),
  (13, [(.aload_n 0, 1, []), (.getfield 64, 3, [7, 9, 755, 0]), (.bipush 45, 2, []), (.if_icmp .ne 24, 3, [43])]),
  (22, [(.iload_n 2, 1, []), (.sipush 400, 3, []), (.if_icmp .ge 17, 3, [43])]),
  (29, [(.aload_n 0, 1, []), (.invokevirtual 57, 3, [182, 0, 1648, 0, 3, 7]), (.aload_n 0, 1, []), (.invokevirtual 221, 3, [198, 0, 1713, 0, 3, 7]), (.iinc 2 1, 3, []), (.goto (-34), 3, [6])]),
  (43, [(.aload_n 0, 1, []), (.invokevirtual 60, 3, [183, 0, 1652, 0, 4, 7]), (.ifCond .ne 4, 3, [51])]),
  (50, [(.return_, 1, [])]),
  (51, [(.aload_n 0, 1, []), (.getfield 74, 3, [7, 10, 756, 0]), (.istore_n 3, 1, []), (.aload_n 0, 1, []), (.iload_n 1, 1, []), (.invokevirtual 224, 3, [199, 1, 1717, 0, 3, 7]), (.iload_n 2, 1, []), (.ifCond .le 16, 3, [78])]),
  (65, [(.aload_n 0, 1, []), (.getfield 11, 3, [7, 0, 746, 0]), (.bipush 14, 2, []), (.lconst 1, 1, []), (.iload_n 3, 1, []), (.iconst 0, 1, []), (.invokevirtual 187, 3, [190, 4, 1680, 1, 4, 8]), (.pop, 1, [])]),
  (78, [(.iload_n 2, 1, []), (.iconst 1, 1, []), (.iand, 1, []), (.iconst 1, 1, []), (.if_icmp .ne 16, 3, [98])]),
  (85, [(.aload_n 0, 1, []), (.getfield 11, 3, [7, 0, 746, 0]), (.bipush 7, 2, []), (.lconst 0, 1, []), (.iconst 0, 1, []), (.iconst 0, 1, []), (.invokevirtual 187, 3, [190, 4, 1680, 1, 4, 8]), (.pop, 1, [])]),
  (98, [(.return_, 1, [])])]
set_option maxRecDepth 100000 in
theorem ok_Parser_atom : fk_okM 197 B_Parser_atom = true := by decide +kernel
abbrev C_Parser_atom : fkC := [(6, [true, true, true, false]), (43, [true, true, true, false]), (78, [true, false, true, false])]
set_option maxRecDepth 100000 in
set_option maxHeartbeats 4000000 in
theorem S_Parser_atom {d : Nat} {a0 : Int32} {σ : fkS} {Q : Option Value → fkS → Prop} 
  (h : (Dv d 198 [.ref 88] σ (fun σ1 =>
  Wq 197 (d + 1) 6 [some (.ref 88), some (.int a0), some (.int (0 : Int32)), none] [] (sW σ1 σ) Q))) :
  Cl (d + 1) 197 [.ref 88, .int a0] σ Q := by
  exact Cl.run B_Parser_atom C_Parser_atom 15 fk_q197 ok_Parser_atom rfl h
set_option maxRecDepth 100000 in
set_option maxHeartbeats 4000000 in
theorem S_Parser_atom_6 {d : Nat} {v1 : Int32} {v2 : Int32} {σ : fkS} {Q : Option Value → fkS → Prop} 
  (h : (Di d 183 [.ref 88] σ (fun x2 σ1 =>
  ((x2 = 0 →
    Wq 197 (d + 1) 43 [some (.ref 88), some (.int v1), some (.int v2), none] [] (sW σ1 σ) Q) ∧
   (¬ x2 = 0 →
    ((¬ ((sW σ1 σ).1 88 9) = (45 : Int32) →
      Wq 197 (d + 1) 43 [some (.ref 88), some (.int v1), some (.int v2), none] [] (sW σ1 σ) Q) ∧
     (((sW σ1 σ).1 88 9) = (45 : Int32) →
      (((400 : Int32) ≤ v2 →
        Wq 197 (d + 1) 43 [some (.ref 88), some (.int v1), some (.int v2), none] [] (sW σ1 σ) Q) ∧
       (¬ (400 : Int32) ≤ v2 →
        (Dv d 182 [.ref 88] (sW σ1 σ) (fun σ3 =>
        (Dv d 198 [.ref 88] (sW σ3 σ) (fun σ4 =>
        Wq 197 (d + 1) 6 [some (.ref 88), some (.int v1), some (.int (v2 + (1 : Int32))), none] [] (sW σ4 σ) Q))))))))))))) :
  Wq 197 (d + 1) 6 [some (.ref 88), some (.int v1), some (.int v2), none] [] σ Q := by
  exact fk_run_sound (B := B_Parser_atom) (C := C_Parser_atom) (n := 15) ok_Parser_atom h
set_option maxRecDepth 100000 in
set_option maxHeartbeats 4000000 in
theorem S_Parser_atom_43 {d : Nat} {v1 : Int32} {v2 : Int32} {σ : fkS} {Q : Option Value → fkS → Prop} (h88_0 : σ.2.2 88 0 = 76)
  (h : (Di d 183 [.ref 88] σ (fun x2 σ1 =>
  ((¬ x2 = 0 →
    (Dv d 199 [.ref 88, .int v1] (sW σ1 σ) (fun σ3 =>
    ((v2 ≤ 0 →
      Wq 197 (d + 1) 78 [some (.ref 88), none, some (.int v2), none] [] (sW σ3 σ) Q) ∧
     (¬ v2 ≤ 0 →
      (¬ (76 : Nat) = 0 ∧
      (Di d 190 [.ref 75, .int (14 : Int32), .long (1 : Int64), .int ((sW σ1 σ).1 88 10), .int (0 : Int32)] (sW σ3 σ) (fun x5 σ4 =>
      Wq 197 (d + 1) 78 [some (.ref 88), none, some (.int v2), none] [] (sW σ4 σ) Q)))))))) ∧
   (x2 = 0 →
    Q none (sW σ1 σ)))))) :
  Wq 197 (d + 1) 43 [some (.ref 88), some (.int v1), some (.int v2), none] [] σ Q := by
  rw [← sR_eta h88_0] at h ⊢
  exact fk_run_sound (B := B_Parser_atom) (C := C_Parser_atom) (n := 15) ok_Parser_atom h
set_option maxRecDepth 100000 in
set_option maxHeartbeats 4000000 in
theorem S_Parser_atom_78 {d : Nat} {v2 : Int32} {σ : fkS} {Q : Option Value → fkS → Prop} (h88_0 : σ.2.2 88 0 = 76)
  (h : ((¬ (v2 &&& (1 : Int32)) = (1 : Int32) →
    Q none σ) ∧
   ((v2 &&& (1 : Int32)) = (1 : Int32) →
    (¬ (76 : Nat) = 0 ∧
    (Di d 190 [.ref 75, .int (7 : Int32), .long (0 : Int64), .int (0 : Int32), .int (0 : Int32)] σ (fun x2 σ1 =>
    Q none (sW σ1 σ))))))) :
  Wq 197 (d + 1) 78 [some (.ref 88), none, some (.int v2), none] [] σ Q := by
  rw [← sR_eta h88_0] at h ⊢
  exact fk_run_sound (B := B_Parser_atom) (C := C_Parser_atom) (n := 15) ok_Parser_atom h
def B_Parser_countAtom : fkB := [(0, [(.aload_n 0, 1, []), (.getfield 48, 3, [7, 12, 758, 0]), (.sipush 400, 3, []), (.if_icmp .lt 7, 3, [14])]),
  (10, [(.aload_n 0, 1, []), (.invokevirtual 71, 3, [186, 0, 1664, 0, 3, 7])]),
  (14, [(.aload_n 0, 1, []), (.dup, 1, []), (.getfield 48, 3, [7, 12, 758, 0]), (.iconst 1, 1, []), (.iadd, 1, []), (.putfield 48, 3, [7, 12, 758, 0]), (.return_, 1, [])])]
set_option maxRecDepth 100000 in
theorem ok_Parser_countAtom : fk_okM 198 B_Parser_countAtom = true := by decide +kernel
abbrev C_Parser_countAtom : fkC := []
set_option maxRecDepth 100000 in
set_option maxHeartbeats 4000000 in
theorem S_Parser_countAtom {d : Nat}  {σ : fkS} {Q : Option Value → fkS → Prop} 
  (h : (((σ.1 88 12) < (400 : Int32) →
    Q none (sI σ 88 12 ((σ.1 88 12) + (1 : Int32)))) ∧
   (¬ (σ.1 88 12) < (400 : Int32) →
    (Dv d 186 [.ref 88] σ (fun σ1 =>
    Q none (sI (sW σ1 σ) 88 12 (((sW σ1 σ).1 88 12) + (1 : Int32)))))))) :
  Cl (d + 1) 198 [.ref 88] σ Q := by
  exact Cl.run B_Parser_countAtom C_Parser_countAtom 6 fk_q198 ok_Parser_countAtom rfl h
def B_Parser_plainAtom : fkB := [(0, [(.aload_n 0, 1, []), (.getfield 64, 3, [7, 9, 755, 0]), (.lookupswitch 201 #[(1, 93), (2, 68), (12, 156), (13, 178), (14, 189), (38, 101), (40, 136)], 68, [205, 97, 72, 160, 182, 193, 105, 140])]),
  (72, [(.aload_n 0, 1, []), (.getfield 11, 3, [7, 0, 746, 0]), (.iconst 0, 1, []), (.aload_n 0, 1, []), (.getfield 96, 3, [7, 11, 757, 0]), (.aload_n 0, 1, []), (.getfield 74, 3, [7, 10, 756, 0]), (.iconst 0, 1, []), (.invokevirtual 187, 3, [190, 4, 1680, 1, 4, 8]), (.pop, 1, []), (.aload_n 0, 1, []), (.invokevirtual 57, 3, [182, 0, 1648, 0, 3, 7]), (.goto 115, 3, [209])]),
  (97, [(.aload_n 0, 1, []), (.iload_n 1, 1, []), (.invokevirtual 227, 3, [200, 1, 1721, 0, 3, 7]), (.goto 107, 3, [209])]),
  (105, [(.aload_n 0, 1, []), (.getfield 74, 3, [7, 10, 756, 0]), (.istore_n 2, 1, []), (.aload_n 0, 1, []), (.invokevirtual 57, 3, [182, 0, 1648, 0, 3, 7]), (.aload_n 0, 1, []), (.getfield 11, 3, [7, 0, 746, 0]), (.iconst 3, 1, []), (.aload_n 0, 1, []), (.getfield 96, 3, [7, 11, 757, 0]), (.aload_n 0, 1, []), (.getfield 74, 3, [7, 10, 756, 0]), (.iload_n 2, 1, []), (.invokevirtual 187, 3, [190, 4, 1680, 1, 4, 8]), (.pop, 1, []), (.aload_n 0, 1, []), (.iconst 1, 1, []), (.invokevirtual 149, 3, [185, 1, 1660, 0, 3, 7]), (.goto 72, 3, [209])]),
  (140, [(.aload_n 0, 1, []), (.invokevirtual 57, 3, [182, 0, 1648, 0, 3, 7]), (.aload_n 0, 1, []), (.iload_n 1, 1, []), (.iconst 1, 1, []), (.iadd, 1, []), (.invokevirtual 184, 3, [188, 1, 1672, 0, 3, 7]), (.aload_n 0, 1, []), (.bipush 41, 2, []), (.invokevirtual 149, 3, [185, 1, 1660, 0, 3, 7]), (.goto 52, 3, [209])]),
  (160, [(.aload_n 0, 1, []), (.getfield 11, 3, [7, 0, 746, 0]), (.iconst 4, 1, []), (.lconst 0, 1, []), (.aload_n 0, 1, []), (.getfield 74, 3, [7, 10, 756, 0]), (.iconst 0, 1, []), (.invokevirtual 187, 3, [190, 4, 1680, 1, 4, 8]), (.pop, 1, []), (.aload_n 0, 1, []), (.invokevirtual 57, 3, [182, 0, 1648, 0, 3, 7]), (.goto 30, 3, [209])]),
  (182, [(.aload_n 0, 1, []), (.iconst 5, 1, []), (.iconst 1, 1, []), (.iconst 2, 1, []), (.iload_n 1, 1, []), (.invokevirtual 230, 3, [201, 4, 1725, 0, 3, 7]), (.goto 19, 3, [209])]),
  (193, [(.aload_n 0, 1, []), (.bipush 6, 2, []), (.iconst 3, 1, []), (.iconst 1, 1, []), (.iload_n 1, 1, []), (.invokevirtual 230, 3, [201, 4, 1725, 0, 3, 7]), (.goto 7, 3, [209])]),
  (205, [(.aload_n 0, 1, []), (.invokevirtual 71, 3, [186, 0, 1664, 0, 3, 7])]),
  (209, [(.return_, 1, [])])]
set_option maxRecDepth 100000 in
theorem ok_Parser_plainAtom : fk_okM 199 B_Parser_plainAtom = true := by decide +kernel
abbrev C_Parser_plainAtom : fkC := []
set_option maxRecDepth 100000 in
set_option maxHeartbeats 4000000 in
theorem S_Parser_plainAtom {d : Nat} {a0 : Int32} {σ : fkS} {Q : Option Value → fkS → Prop} (h88_0 : σ.2.2 88 0 = 76)
  (h : (((σ.1 88 9).toInt = 1 →
    (Dv d 200 [.ref 88, .int a0] σ (fun σ1 =>
    Q none (sW σ1 σ)))) ∧
   (¬ (σ.1 88 9).toInt = 1 →
   (((σ.1 88 9).toInt = 2 →
    (¬ (76 : Nat) = 0 ∧
    (Di d 190 [.ref 75, .int (0 : Int32), .long (σ.2.1 88 11), .int (σ.1 88 10), .int (0 : Int32)] σ (fun x3 σ2 =>
    (Dv d 182 [.ref 88] (sW σ2 σ) (fun σ4 =>
    Q none (sW σ4 σ))))))) ∧
   (¬ (σ.1 88 9).toInt = 2 →
   (((σ.1 88 9).toInt = 12 →
    (¬ (76 : Nat) = 0 ∧
    (Di d 190 [.ref 75, .int (4 : Int32), .long (0 : Int64), .int (σ.1 88 10), .int (0 : Int32)] σ (fun x6 σ5 =>
    (Dv d 182 [.ref 88] (sW σ5 σ) (fun σ7 =>
    Q none (sW σ7 σ))))))) ∧
   (¬ (σ.1 88 9).toInt = 12 →
   (((σ.1 88 9).toInt = 13 →
    (Dv d 201 [.ref 88, .int (5 : Int32), .int (1 : Int32), .int (2 : Int32), .int a0] σ (fun σ8 =>
    Q none (sW σ8 σ)))) ∧
   (¬ (σ.1 88 9).toInt = 13 →
   (((σ.1 88 9).toInt = 14 →
    (Dv d 201 [.ref 88, .int (6 : Int32), .int (3 : Int32), .int (1 : Int32), .int a0] σ (fun σ9 =>
    Q none (sW σ9 σ)))) ∧
   (¬ (σ.1 88 9).toInt = 14 →
   (((σ.1 88 9).toInt = 38 →
    (Dv d 182 [.ref 88] σ (fun σ10 =>
    (¬ (76 : Nat) = 0 ∧
    (Di d 190 [.ref 75, .int (3 : Int32), .long ((sW σ10 σ).2.1 88 11), .int ((sW σ10 σ).1 88 10), .int (σ.1 88 10)] (sW σ10 σ) (fun x12 σ11 =>
    (Dv d 185 [.ref 88, .int (1 : Int32)] (sW σ11 σ) (fun σ13 =>
    Q none (sW σ13 σ))))))))) ∧
   (¬ (σ.1 88 9).toInt = 38 →
   (((σ.1 88 9).toInt = 40 →
    (Dv d 182 [.ref 88] σ (fun σ14 =>
    (Dv d 188 [.ref 88, .int (a0 + (1 : Int32))] (sW σ14 σ) (fun σ15 =>
    (Dv d 185 [.ref 88, .int (41 : Int32)] (sW σ15 σ) (fun σ16 =>
    Q none (sW σ16 σ)))))))) ∧
   (¬ (σ.1 88 9).toInt = 40 →
   (Dv d 186 [.ref 88] σ (fun σ17 =>
    Q none (sW σ17 σ)))))))))))))))))) :
  Cl (d + 1) 199 [.ref 88, .int a0] σ Q := by
  rw [← sR_eta h88_0] at h ⊢
  exact Cl.run B_Parser_plainAtom C_Parser_plainAtom 13 fk_q199 ok_Parser_plainAtom rfl h
def B_Parser_nameOrCall : fkB := [(0, [(.aload_n 0, 1, []), (.getfield 96, 3, [7, 11, 757, 0]), (.lstore_n 2, 1, []), (.aload_n 0, 1, []), (.getfield 74, 3, [7, 10, 756, 0]), (.istore 4, 2, []), (.aload_n 0, 1, []), (.invokevirtual 57, 3, [182, 0, 1648, 0, 3, 7]), (.aload_n 0, 1, []), (.getfield 64, 3, [7, 9, 755, 0]), (.bipush 40, 2, []), (.if_icmp .eq 17, 3, [38])]),
  (24, [(.aload_n 0, 1, []), (.getfield 11, 3, [7, 0, 746, 0]), (.iconst 1, 1, []), (.lload_n 2, 1, []), (.iload 4, 2, []), (.iconst 0, 1, []), (.invokevirtual 187, 3, [190, 4, 1680, 1, 4, 8]), (.pop, 1, []), (.return_, 1, [])]),
  (38, [(.aload_n 0, 1, []), (.invokevirtual 57, 3, [182, 0, 1648, 0, 3, 7]), (.iconst 0, 1, []), (.istore 5, 2, []), (.iconst 1, 1, []), (.istore 6, 2, [])]),
  (48, [(.iload 6, 2, []), (.ifCond .eq 77, 3, [127])]),
  (53, [(.iload 5, 2, []), (.sipush 400, 3, []), (.if_icmp .gt 69, 3, [127])]),
  (61, [(.aload_n 0, 1, []), (.getfield 74, 3, [7, 10, 756, 0]), (.istore 7, 2, []), (.aload_n 0, 1, []), (.iload_n 1, 1, []), (.iconst 1, 1, []), (.iadd, 1, []), (.invokevirtual 184, 3, [188, 1, 1672, 0, 3, 7]), (.aload_n 0, 1, []), (.getfield 11, 3, [7, 0, 746, 0]), (.bipush 15, 2, []), (.lload_n 2, 1, []), (.iload 7, 2, []), (.iload 5, 2, []), (.invokevirtual 187, 3, [190, 4, 1680, 1, 4, 8]), (.pop, 1, []), (.iinc 5 1, 3, []), (.aload_n 0, 1, []), (.invokevirtual 60, 3, [183, 0, 1652, 0, 4, 7]), (.ifCond .eq 16, 3, [112])]),
  (99, [(.aload_n 0, 1, []), (.getfield 64, 3, [7, 9, 755, 0]), (.bipush 44, 2, []), (.if_icmp .ne 7, 3, [112])]),
  (108, [(.iconst 1, 1, []), (.goto 4, 3, [113])]),
  (112, [(.iconst 0, 1, [])]),
  (113, [(.istore 6, 2, []), (.iload 6, 2, []), (.ifCond .eq 7, 3, [124])]),
  (120, [(.aload_n 0, 1, []), (.invokevirtual 57, 3, [182, 0, 1648, 0, 3, 7])]),
  (124, [(.goto (-76), 3, [48])]),
  (127, [(.aload_n 0, 1, []), (.bipush 41, 2, []), (.invokevirtual 149, 3, [185, 1, 1660, 0, 3, 7]), (.aload_n 0, 1, []), (.getfield 11, 3, [7, 0, 746, 0]), (.iconst 2, 1, []), (.lload_n 2, 1, []), (.iload 4, 2, []), (.iload 5, 2, []), (.invokevirtual 187, 3, [190, 4, 1680, 1, 4, 8]), (.pop, 1, []), (.return_, 1, [])])]
set_option maxRecDepth 100000 in
theorem ok_Parser_nameOrCall : fk_okM 200 B_Parser_nameOrCall = true := by decide +kernel
abbrev C_Parser_nameOrCall : fkC := [(48, [true, true, true, false, true, true, true, false])]
set_option maxRecDepth 100000 in
set_option maxHeartbeats 4000000 in
theorem S_Parser_nameOrCall {d : Nat} {a0 : Int32} {σ : fkS} {Q : Option Value → fkS → Prop} (h88_0 : σ.2.2 88 0 = 76)
  (h : (Dv d 182 [.ref 88] σ (fun σ1 =>
  ((((sW σ1 σ).1 88 9) = (40 : Int32) →
    (Dv d 182 [.ref 88] (sW σ1 σ) (fun σ2 =>
    Wq 200 (d + 1) 48 [some (.ref 88), some (.int a0), some (.long (σ.2.1 88 11)), none, some (.int (σ.1 88 10)), some (.int (0 : Int32)), some (.int (1 : Int32)), none] [] (sW σ2 σ) Q))) ∧
   (¬ ((sW σ1 σ).1 88 9) = (40 : Int32) →
    (¬ (76 : Nat) = 0 ∧
    (Di d 190 [.ref 75, .int (1 : Int32), .long (σ.2.1 88 11), .int (σ.1 88 10), .int (0 : Int32)] (sW σ1 σ) (fun x4 σ3 =>
    Q none (sW σ3 σ))))))))) :
  Cl (d + 1) 200 [.ref 88, .int a0] σ Q := by
  rw [← sR_eta h88_0] at h ⊢
  exact Cl.run B_Parser_nameOrCall C_Parser_nameOrCall 16 fk_q200 ok_Parser_nameOrCall rfl h
set_option maxRecDepth 100000 in
set_option maxHeartbeats 4000000 in
theorem S_Parser_nameOrCall_48 {d : Nat} {v1 : Int32} {v2 : Int64} {v4 : Int32} {v5 : Int32} {v6 : Int32} {σ : fkS} {Q : Option Value → fkS → Prop} (h88_0 : σ.2.2 88 0 = 76)
  (h : ((v6 = 0 →
    (Dv d 185 [.ref 88, .int (41 : Int32)] σ (fun σ1 =>
    (¬ (76 : Nat) = 0 ∧
    (Di d 190 [.ref 75, .int (2 : Int32), .long v2, .int v4, .int v5] (sW σ1 σ) (fun x3 σ2 =>
    Q none (sW σ2 σ))))))) ∧
   (¬ v6 = 0 →
    (((400 : Int32) < v5 →
      (Dv d 185 [.ref 88, .int (41 : Int32)] σ (fun σ4 =>
      (¬ (76 : Nat) = 0 ∧
      (Di d 190 [.ref 75, .int (2 : Int32), .long v2, .int v4, .int v5] (sW σ4 σ) (fun x6 σ5 =>
      Q none (sW σ5 σ))))))) ∧
     (¬ (400 : Int32) < v5 →
      (Dv d 188 [.ref 88, .int (v1 + (1 : Int32))] σ (fun σ7 =>
      (¬ (76 : Nat) = 0 ∧
      (Di d 190 [.ref 75, .int (15 : Int32), .long v2, .int (σ.1 88 10), .int v5] (sW σ7 σ) (fun x9 σ8 =>
      (Di d 183 [.ref 88] (sW σ8 σ) (fun x11 σ10 =>
      ((x11 = 0 →
        (((0 : Int32) = 0 →
          Wq 200 (d + 1) 48 [some (.ref 88), some (.int v1), some (.long v2), none, some (.int v4), some (.int (v5 + (1 : Int32))), some (.int (0 : Int32)), none] [] (sW σ10 σ) Q) ∧
         (¬ (0 : Int32) = 0 →
          (Dv d 182 [.ref 88] (sW σ10 σ) (fun σ12 =>
          Wq 200 (d + 1) 48 [some (.ref 88), some (.int v1), some (.long v2), none, some (.int v4), some (.int (v5 + (1 : Int32))), some (.int (0 : Int32)), none] [] (sW σ12 σ) Q))))) ∧
       (¬ x11 = 0 →
        ((¬ ((sW σ10 σ).1 88 9) = (44 : Int32) →
          (((0 : Int32) = 0 →
            Wq 200 (d + 1) 48 [some (.ref 88), some (.int v1), some (.long v2), none, some (.int v4), some (.int (v5 + (1 : Int32))), some (.int (0 : Int32)), none] [] (sW σ10 σ) Q) ∧
           (¬ (0 : Int32) = 0 →
            (Dv d 182 [.ref 88] (sW σ10 σ) (fun σ13 =>
            Wq 200 (d + 1) 48 [some (.ref 88), some (.int v1), some (.long v2), none, some (.int v4), some (.int (v5 + (1 : Int32))), some (.int (0 : Int32)), none] [] (sW σ13 σ) Q))))) ∧
         (((sW σ10 σ).1 88 9) = (44 : Int32) →
          (((1 : Int32) = 0 →
            Wq 200 (d + 1) 48 [some (.ref 88), some (.int v1), some (.long v2), none, some (.int v4), some (.int (v5 + (1 : Int32))), some (.int (1 : Int32)), none] [] (sW σ10 σ) Q) ∧
           (¬ (1 : Int32) = 0 →
            (Dv d 182 [.ref 88] (sW σ10 σ) (fun σ14 =>
            Wq 200 (d + 1) 48 [some (.ref 88), some (.int v1), some (.long v2), none, some (.int v4), some (.int (v5 + (1 : Int32))), some (.int (1 : Int32)), none] [] (sW σ14 σ) Q)))))))))))))))))))) :
  Wq 200 (d + 1) 48 [some (.ref 88), some (.int v1), some (.long v2), none, some (.int v4), some (.int v5), some (.int v6), none] [] σ Q := by
  rw [← sR_eta h88_0] at h ⊢
  exact fk_run_sound (B := B_Parser_nameOrCall) (C := C_Parser_nameOrCall) (n := 16) ok_Parser_nameOrCall h
def B_Parser_pair : fkB := [(0, [(.aload_n 0, 1, []), (.invokevirtual 57, 3, [182, 0, 1648, 0, 3, 7]), (.aload_n 0, 1, []), (.bipush 40, 2, []), (.invokevirtual 149, 3, [185, 1, 1660, 0, 3, 7]), (.aload_n 0, 1, []), (.iload_n 2, 1, []), (.iload 4, 2, []), (.iconst 1, 1, []), (.iadd, 1, []), (.invokevirtual 204, 3, [192, 2, 1688, 0, 3, 7]), (.aload_n 0, 1, []), (.bipush 44, 2, []), (.invokevirtual 149, 3, [185, 1, 1660, 0, 3, 7]), (.aload_n 0, 1, []), (.iload_n 3, 1, []), (.iload 4, 2, []), (.iconst 1, 1, []), (.iadd, 1, []), (.invokevirtual 204, 3, [192, 2, 1688, 0, 3, 7]), (.aload_n 0, 1, []), (.bipush 41, 2, []), (.invokevirtual 149, 3, [185, 1, 1660, 0, 3, 7]), (.aload_n 0, 1, []), (.getfield 11, 3, [7, 0, 746, 0]), (.iload_n 1, 1, []), (.lconst 0, 1, []), (.iconst 0, 1, []), (.iconst 0, 1, []), (.invokevirtual 187, 3, [190, 4, 1680, 1, 4, 8]), (.pop, 1, []), (.return_, 1, [])])]
set_option maxRecDepth 100000 in
theorem ok_Parser_pair : fk_okM 201 B_Parser_pair = true := by decide +kernel
abbrev C_Parser_pair : fkC := []
set_option maxRecDepth 100000 in
set_option maxHeartbeats 4000000 in
theorem S_Parser_pair {d : Nat} {a0 : Int32} {a1 : Int32} {a2 : Int32} {a3 : Int32} {σ : fkS} {Q : Option Value → fkS → Prop} (h88_0 : σ.2.2 88 0 = 76)
  (h : (Dv d 182 [.ref 88] σ (fun σ1 =>
  (Dv d 185 [.ref 88, .int (40 : Int32)] (sW σ1 σ) (fun σ2 =>
  (Dv d 192 [.ref 88, .int a1, .int (a3 + (1 : Int32))] (sW σ2 σ) (fun σ3 =>
  (Dv d 185 [.ref 88, .int (44 : Int32)] (sW σ3 σ) (fun σ4 =>
  (Dv d 192 [.ref 88, .int a2, .int (a3 + (1 : Int32))] (sW σ4 σ) (fun σ5 =>
  (Dv d 185 [.ref 88, .int (41 : Int32)] (sW σ5 σ) (fun σ6 =>
  (¬ (76 : Nat) = 0 ∧
  (Di d 190 [.ref 75, .int a0, .long (0 : Int64), .int (0 : Int32), .int (0 : Int32)] (sW σ6 σ) (fun x8 σ7 =>
  Q none (sW σ7 σ))))))))))))))))) :
  Cl (d + 1) 201 [.ref 88, .int a0, .int a1, .int a2, .int a3] σ Q := by
  rw [← sR_eta h88_0] at h ⊢
  exact Cl.run B_Parser_pair C_Parser_pair 4 fk_q201 ok_Parser_pair rfl h
def B_Parser_levelOf : fkB := [(0, [(.iload_n 0, 1, []), (.lookupswitch 73 #[(37, 71), (42, 71), (43, 69), (45, 69), (47, 71), (60, 67), (128, 67)], 67, [74, 72, 72, 70, 70, 72, 68, 68])]),
  (68, [(.iconst 0, 1, []), (.ireturn, 1, [])]),
  (70, [(.iconst 1, 1, []), (.ireturn, 1, [])]),
  (72, [(.iconst 2, 1, []), (.ireturn, 1, [])]),
  (74, [(.iconst (-1), 1, []), (.ireturn, 1, [])])]
set_option maxRecDepth 100000 in
theorem ok_Parser_levelOf : fk_okM 202 B_Parser_levelOf = true := by decide +kernel
abbrev C_Parser_levelOf : fkC := []
set_option maxRecDepth 100000 in
set_option maxHeartbeats 4000000 in
theorem S_Parser_levelOf {d : Nat} {a0 : Int32} {σ : fkS} {Q : Option Value → fkS → Prop} 
  (h : ((a0.toInt = 37 →
    Q (some (.int (2 : Int32))) σ) ∧
   (¬ a0.toInt = 37 →
   ((a0.toInt = 42 →
    Q (some (.int (2 : Int32))) σ) ∧
   (¬ a0.toInt = 42 →
   ((a0.toInt = 43 →
    Q (some (.int (1 : Int32))) σ) ∧
   (¬ a0.toInt = 43 →
   ((a0.toInt = 45 →
    Q (some (.int (1 : Int32))) σ) ∧
   (¬ a0.toInt = 45 →
   ((a0.toInt = 47 →
    Q (some (.int (2 : Int32))) σ) ∧
   (¬ a0.toInt = 47 →
   ((a0.toInt = 60 →
    Q (some (.int (0 : Int32))) σ) ∧
   (¬ a0.toInt = 60 →
   ((a0.toInt = 128 →
    Q (some (.int (0 : Int32))) σ) ∧
   (¬ a0.toInt = 128 →
   Q (some (.int (-1 : Int32))) σ))))))))))))))) :
  Cl d 202 [.int a0] σ Q := by
  exact Cl.run B_Parser_levelOf C_Parser_levelOf 8 fk_q202 ok_Parser_levelOf rfl h
def B_Checker_faultOf : fkB := [(0, [(.aload_n 0, 1, []), (.aload_n 1, 1, []), (.putfield 7, 3, [0, 0, 795, 0]), (.aload_n 0, 1, []), (.iconst (-1), 1, []), (.putfield 27, 3, [0, 8, 803, 0]), (.iconst 0, 1, []), (.istore_n 2, 1, [])]),
  (12, [(.iload_n 2, 1, []), (.aload_n 0, 1, []), (.getfield 7, 3, [0, 0, 795, 0]), (.getfield 31, 3, [8, 0, 668, 1]), (.if_icmp .ge 14, 3, [34])]),
  (23, [(.aload_n 0, 1, []), (.iload_n 2, 1, []), (.invokevirtual 36, 3, [204, 1, 1736, 0, 3, 0]), (.iinc 2 1, 3, []), (.goto (-19), 3, [12])]),
  (34, [(.iconst 0, 1, []), (.istore_n 2, 1, [])]),
  (36, [(.iload_n 2, 1, []), (.aload_n 0, 1, []), (.getfield 7, 3, [0, 0, 795, 0]), (.getfield 31, 3, [8, 0, 668, 1]), (.if_icmp .ge 14, 3, [58])]),
  (47, [(.aload_n 0, 1, []), (.iload_n 2, 1, []), (.invokevirtual 40, 3, [207, 1, 1748, 0, 3, 0]), (.iinc 2 1, 3, []), (.goto (-19), 3, [36])]),
  (58, [(.aload_n 0, 1, []), (.getfield 27, 3, [0, 8, 803, 0]), (.ireturn, 1, [])])]
set_option maxRecDepth 100000 in
theorem ok_Checker_faultOf : fk_okM 203 B_Checker_faultOf = true := by decide +kernel
abbrev C_Checker_faultOf : fkC := [(12, [true, false, true]), (36, [true, false, true])]
set_option maxRecDepth 100000 in
set_option maxHeartbeats 4000000 in
theorem S_Checker_faultOf {d : Nat}  {σ : fkS} {Q : Option Value → fkS → Prop} 
  (h : Wq 203 (d + 1) 12 [some (.ref 93), none, some (.int (0 : Int32))] [] (sI (sR σ 93 0 76) 93 8 (-1 : Int32)) Q) :
  Cl (d + 1) 203 [.ref 93, .ref 75] σ Q := by
  exact Cl.run B_Checker_faultOf C_Checker_faultOf 10 fk_q203 ok_Checker_faultOf rfl h
set_option maxRecDepth 100000 in
set_option maxHeartbeats 4000000 in
theorem S_Checker_faultOf_12 {d : Nat} {v2 : Int32} {σ : fkS} {Q : Option Value → fkS → Prop} (h93_0 : σ.2.2 93 0 = 76)
  (h : (¬ (76 : Nat) = 0 ∧
  (((σ.1 75 0) ≤ v2 →
    Wq 203 (d + 1) 36 [some (.ref 93), none, some (.int (0 : Int32))] [] σ Q) ∧
   (¬ (σ.1 75 0) ≤ v2 →
    (Dv d 204 [.ref 93, .int v2] σ (fun σ1 =>
    Wq 203 (d + 1) 12 [some (.ref 93), none, some (.int (v2 + (1 : Int32)))] [] (sW σ1 σ) Q)))))) :
  Wq 203 (d + 1) 12 [some (.ref 93), none, some (.int v2)] [] σ Q := by
  rw [← sR_eta h93_0] at h ⊢
  exact fk_run_sound (B := B_Checker_faultOf) (C := C_Checker_faultOf) (n := 10) ok_Checker_faultOf h
set_option maxRecDepth 100000 in
set_option maxHeartbeats 4000000 in
theorem S_Checker_faultOf_36 {d : Nat} {v2 : Int32} {σ : fkS} {Q : Option Value → fkS → Prop} (h93_0 : σ.2.2 93 0 = 76)
  (h : (¬ (76 : Nat) = 0 ∧
  (((σ.1 75 0) ≤ v2 →
    Q (some (.int (σ.1 93 8))) σ) ∧
   (¬ (σ.1 75 0) ≤ v2 →
    (Dv d 207 [.ref 93, .int v2] σ (fun σ1 =>
    Wq 203 (d + 1) 36 [some (.ref 93), none, some (.int (v2 + (1 : Int32)))] [] (sW σ1 σ) Q)))))) :
  Wq 203 (d + 1) 36 [some (.ref 93), none, some (.int v2)] [] σ Q := by
  rw [← sR_eta h93_0] at h ⊢
  exact fk_run_sound (B := B_Checker_faultOf) (C := C_Checker_faultOf) (n := 10) ok_Checker_faultOf h
def B_Checker_checkNames : fkB := [(0, [(.aload_n 0, 1, []), (.getfield 7, 3, [0, 0, 795, 0]), (.aload_n 0, 1, []), (.getfield 7, 3, [0, 0, 795, 0]), (.getfield 43, 3, [8, 1, 672, 1]), (.iload_n 1, 1, []), (.laload, 1, []), (.invokevirtual 46, 3, [205, 1, 1740, 1, 4, 8]), (.iload_n 1, 1, []), (.if_icmp .ge 16, 3, [33])]),
  (20, [(.aload_n 0, 1, []), (.aload_n 0, 1, []), (.getfield 7, 3, [0, 0, 795, 0]), (.getfield 50, 3, [8, 2, 675, 1]), (.iload_n 1, 1, []), (.iaload, 1, []), (.invokevirtual 53, 3, [206, 1, 1744, 0, 3, 0])]),
  (33, [(.iconst 4, 1, []), (.iload_n 1, 1, []), (.imul, 1, []), (.istore_n 2, 1, []), (.iconst 0, 1, []), (.istore_n 3, 1, [])]),
  (39, [(.iload_n 3, 1, []), (.aload_n 0, 1, []), (.getfield 7, 3, [0, 0, 795, 0]), (.getfield 56, 3, [8, 3, 679, 1]), (.iload_n 1, 1, []), (.iaload, 1, []), (.if_icmp .ge 66, 3, [115])]),
  (52, [(.iconst 0, 1, []), (.istore 4, 2, [])]),
  (55, [(.iload 4, 2, []), (.iload_n 3, 1, []), (.if_icmp .ge 51, 3, [109])]),
  (61, [(.aload_n 0, 1, []), (.getfield 7, 3, [0, 0, 795, 0]), (.getfield 59, 3, [8, 6, 689, 1]), (.iload_n 2, 1, []), (.iload 4, 2, []), (.iadd, 1, []), (.laload, 1, []), (.aload_n 0, 1, []), (.getfield 7, 3, [0, 0, 795, 0]), (.getfield 59, 3, [8, 6, 689, 1]), (.iload_n 2, 1, []), (.iload_n 3, 1, []), (.iadd, 1, []), (.laload, 1, []), (.lcmp, 1, []), (.ifCond .ne 18, 3, [103])]),
  (88, [(.aload_n 0, 1, []), (.aload_n 0, 1, []), (.getfield 7, 3, [0, 0, 795, 0]), (.getfield 62, 3, [8, 7, 692, 1]), (.iload_n 2, 1, []), (.iload_n 3, 1, []), (.iadd, 1, []), (.iaload, 1, []), (.invokevirtual 53, 3, [206, 1, 1744, 0, 3, 0])]),
  (103, [(.iinc 4 1, 3, []), (.goto (-51), 3, [55])]),
  (109, [(.iinc 3 1, 3, []), (.goto (-73), 3, [39])]),
  (115, [(.return_, 1, [])])]
set_option maxRecDepth 100000 in
theorem ok_Checker_checkNames : fk_okM 204 B_Checker_checkNames = true := by decide +kernel
abbrev C_Checker_checkNames : fkC := [(39, [true, true, true, true, false]), (55, [true, true, true, true, true])]
set_option maxRecDepth 100000 in
set_option maxHeartbeats 4000000 in
theorem S_Checker_checkNames {d : Nat} {a0 : Int32} {σ : fkS} {Q : Option Value → fkS → Prop} (h93_0 : σ.2.2 93 0 = 76)
  (h : (¬ (76 : Nat) = 0 ∧
  (¬ (76 : Nat) = 0 ∧
  (vp_in a0 20 ∧
  (Di d 205 [.ref 75, .long (σ.2.1 76 a0.toNatClampNeg)] σ (fun x2 σ1 =>
  ((a0 ≤ x2 →
    Wq 204 (d + 1) 39 [some (.ref 93), some (.int a0), some (.int ((4 : Int32) * a0)), some (.int (0 : Int32)), none] [] (sW σ1 σ) Q) ∧
   (¬ a0 ≤ x2 →
    (¬ (76 : Nat) = 0 ∧
    (vp_in a0 20 ∧
    (Dv d 206 [.ref 93, .int ((sW σ1 σ).1 77 a0.toNatClampNeg)] (sW σ1 σ) (fun σ3 =>
    Wq 204 (d + 1) 39 [some (.ref 93), some (.int a0), some (.int ((4 : Int32) * a0)), some (.int (0 : Int32)), none] [] (sW σ3 σ) Q)))))))))))) :
  Cl (d + 1) 204 [.ref 93, .int a0] σ Q := by
  rw [← sR_eta h93_0] at h ⊢
  exact Cl.run B_Checker_checkNames C_Checker_checkNames 14 fk_q204 ok_Checker_checkNames rfl h
set_option maxRecDepth 100000 in
set_option maxHeartbeats 4000000 in
theorem S_Checker_checkNames_39 {d : Nat} {v1 : Int32} {v2 : Int32} {v3 : Int32} {σ : fkS} {Q : Option Value → fkS → Prop} (h93_0 : σ.2.2 93 0 = 76)
  (h : (¬ (76 : Nat) = 0 ∧
  (vp_in v1 20 ∧
  (((σ.1 78 v1.toNatClampNeg) ≤ v3 →
    Q none σ) ∧
   (¬ (σ.1 78 v1.toNatClampNeg) ≤ v3 →
    Wq 204 (d + 1) 55 [some (.ref 93), some (.int v1), some (.int v2), some (.int v3), some (.int (0 : Int32))] [] σ Q))))) :
  Wq 204 (d + 1) 39 [some (.ref 93), some (.int v1), some (.int v2), some (.int v3), none] [] σ Q := by
  rw [← sR_eta h93_0] at h ⊢
  exact fk_run_sound (B := B_Checker_checkNames) (C := C_Checker_checkNames) (n := 14) ok_Checker_checkNames h
set_option maxRecDepth 100000 in
set_option maxHeartbeats 4000000 in
theorem S_Checker_checkNames_55 {d : Nat} {v1 : Int32} {v2 : Int32} {v3 : Int32} {v4 : Int32} {σ : fkS} {Q : Option Value → fkS → Prop} (h93_0 : σ.2.2 93 0 = 76)
  (h : ((v3 ≤ v4 →
    Wq 204 (d + 1) 39 [some (.ref 93), some (.int v1), some (.int v2), some (.int (v3 + (1 : Int32))), none] [] σ Q) ∧
   (¬ v3 ≤ v4 →
    (¬ (76 : Nat) = 0 ∧
    (vp_in (v2 + v4) 80 ∧
    (¬ (76 : Nat) = 0 ∧
    (vp_in (v2 + v3) 80 ∧
    ((¬ (lg_cmp (σ.2.1 81 ((v2 + v4).toNatClampNeg)) (σ.2.1 81 ((v2 + v3).toNatClampNeg))) = 0 →
      Wq 204 (d + 1) 55 [some (.ref 93), some (.int v1), some (.int v2), some (.int v3), some (.int (v4 + (1 : Int32)))] [] σ Q) ∧
     ((lg_cmp (σ.2.1 81 ((v2 + v4).toNatClampNeg)) (σ.2.1 81 ((v2 + v3).toNatClampNeg))) = 0 →
      (¬ (76 : Nat) = 0 ∧
      (vp_in (v2 + v3) 80 ∧
      (Dv d 206 [.ref 93, .int (σ.1 82 ((v2 + v3).toNatClampNeg))] σ (fun σ1 =>
      Wq 204 (d + 1) 55 [some (.ref 93), some (.int v1), some (.int v2), some (.int v3), some (.int (v4 + (1 : Int32)))] [] (sW σ1 σ) Q))))))))))))) :
  Wq 204 (d + 1) 55 [some (.ref 93), some (.int v1), some (.int v2), some (.int v3), some (.int v4)] [] σ Q := by
  rw [← sR_eta h93_0] at h ⊢
  exact fk_run_sound (B := B_Checker_checkNames) (C := C_Checker_checkNames) (n := 14) ok_Checker_checkNames h
def B_Program_find : fkB := [(0, [(.iconst 0, 1, []), (.istore_n 3, 1, [])]),
  (2, [(.iload_n 3, 1, []), (.aload_n 0, 1, []), (.getfield 47, 3, [8, 0, 667, 0]), (.if_icmp .ge 22, 3, [29])]),
  (10, [(.aload_n 0, 1, []), (.getfield 9, 3, [8, 1, 671, 0]), (.iload_n 3, 1, []), (.laload, 1, []), (.lload_n 1, 1, []), (.lcmp, 1, []), (.ifCond .ne 5, 3, [23])]),
  (21, [(.iload_n 3, 1, []), (.ireturn, 1, [])]),
  (23, [(.iinc 3 1, 3, []), (.goto (-24), 3, [2])]),
  (29, [(.iconst (-1), 1, []), (.ireturn, 1, [])])]
set_option maxRecDepth 100000 in
theorem ok_Program_find : fk_okM 205 B_Program_find = true := by decide +kernel
abbrev C_Program_find : fkC := [(2, [true, true, false, true])]
set_option maxRecDepth 100000 in
set_option maxHeartbeats 4000000 in
theorem S_Program_find {d : Nat} {a0 : Int64} {σ : fkS} {Q : Option Value → fkS → Prop} 
  (h : Wq 205 d 2 [some (.ref 75), some (.long a0), none, some (.int (0 : Int32))] [] σ Q) :
  Cl d 205 [.ref 75, .long a0] σ Q := by
  exact Cl.run B_Program_find C_Program_find 9 fk_q205 ok_Program_find rfl h
set_option maxRecDepth 100000 in
set_option maxHeartbeats 4000000 in
theorem S_Program_find_2 {d : Nat} {v1 : Int64} {v3 : Int32} {σ : fkS} {Q : Option Value → fkS → Prop} 
  (h : (((σ.1 75 0) ≤ v3 →
    Q (some (.int (-1 : Int32))) σ) ∧
   (¬ (σ.1 75 0) ≤ v3 →
    (vp_in v3 20 ∧
    ((¬ (lg_cmp (σ.2.1 76 v3.toNatClampNeg) v1) = 0 →
      Wq 205 d 2 [some (.ref 75), some (.long v1), none, some (.int (v3 + (1 : Int32)))] [] σ Q) ∧
     ((lg_cmp (σ.2.1 76 v3.toNatClampNeg) v1) = 0 →
      Q (some (.int v3)) σ)))))) :
  Wq 205 d 2 [some (.ref 75), some (.long v1), none, some (.int v3)] [] σ Q := by
  exact fk_run_sound (B := B_Program_find) (C := C_Program_find) (n := 9) ok_Program_find h
def B_Checker_note : fkB := [(0, [(.aload_n 0, 1, []), (.getfield 27, 3, [0, 8, 803, 0]), (.ifCond .lt 11, 3, [15])]),
  (7, [(.iload_n 1, 1, []), (.aload_n 0, 1, []), (.getfield 27, 3, [0, 8, 803, 0]), (.if_icmp .ge 8, 3, [20])]),
  (15, [(.aload_n 0, 1, []), (.iload_n 1, 1, []), (.putfield 27, 3, [0, 8, 803, 0])]),
  (20, [(.return_, 1, [])])]
set_option maxRecDepth 100000 in
theorem ok_Checker_note : fk_okM 206 B_Checker_note = true := by decide +kernel
abbrev C_Checker_note : fkC := []
set_option maxRecDepth 100000 in
set_option maxHeartbeats 4000000 in
theorem S_Checker_note {d : Nat} {a0 : Int32} {σ : fkS} {Q : Option Value → fkS → Prop} 
  (h : (((σ.1 93 8) < 0 →
    Q none (sI σ 93 8 a0)) ∧
   (¬ (σ.1 93 8) < 0 →
    (((σ.1 93 8) ≤ a0 →
      Q none σ) ∧
     (¬ (σ.1 93 8) ≤ a0 →
      Q none (sI σ 93 8 a0)))))) :
  Cl d 206 [.ref 93, .int a0] σ Q := by
  exact Cl.run B_Checker_note C_Checker_note 7 fk_q206 ok_Checker_note rfl h
def B_Checker_checkBody : fkB := [(0, [(.aload_n 0, 1, []), (.iconst 0, 1, []), (.putfield 65, 3, [0, 2, 797, 0]), (.aload_n 0, 1, []), (.iconst 0, 1, []), (.putfield 68, 3, [0, 5, 800, 0]), (.aload_n 0, 1, []), (.iconst 0, 1, []), (.putfield 71, 3, [0, 7, 802, 0]), (.iconst 0, 1, []), (.istore_n 2, 1, [])]),
  (17, [(.iload_n 2, 1, []), (.aload_n 0, 1, []), (.getfield 7, 3, [0, 0, 795, 0]), (.getfield 56, 3, [8, 3, 679, 1]), (.iload_n 1, 1, []), (.iaload, 1, []), (.if_icmp .ge 47, 3, [74])]),
  (30, [(.iconst 4, 1, []), (.iload_n 1, 1, []), (.imul, 1, []), (.iload_n 2, 1, []), (.iadd, 1, []), (.istore_n 3, 1, []), (.aload_n 0, 1, []), (.aload_n 0, 1, []), (.getfield 7, 3, [0, 0, 795, 0]), (.getfield 74, 3, [8, 8, 695, 1]), (.iload_n 3, 1, []), (.iaload, 1, []), (.invokevirtual 77, 3, [208, 1, 1752, 0, 3, 0]), (.aload_n 0, 1, []), (.aload_n 0, 1, []), (.getfield 7, 3, [0, 0, 795, 0]), (.getfield 59, 3, [8, 6, 689, 1]), (.iload_n 3, 1, []), (.laload, 1, []), (.aload_n 0, 1, []), (.getfield 65, 3, [0, 2, 797, 0]), (.iconst 1, 1, []), (.isub, 1, []), (.invokevirtual 80, 3, [209, 2, 1756, 0, 3, 0]), (.iinc 2 1, 3, []), (.goto (-54), 3, [17])]),
  (74, [(.iload_n 1, 1, []), (.iconst 1, 1, []), (.iadd, 1, []), (.aload_n 0, 1, []), (.getfield 7, 3, [0, 0, 795, 0]), (.getfield 31, 3, [8, 0, 668, 1]), (.if_icmp .ge 17, 3, [101])]),
  (87, [(.aload_n 0, 1, []), (.getfield 7, 3, [0, 0, 795, 0]), (.getfield 84, 3, [8, 5, 685, 1]), (.iload_n 1, 1, []), (.iconst 1, 1, []), (.iadd, 1, []), (.iaload, 1, []), (.goto 10, 3, [108])]),
  (101, [(.aload_n 0, 1, []), (.getfield 7, 3, [0, 0, 795, 0]), (.getfield 87, 3, [8, 9, 699, 1])]),
  (108, [(.istore_n 2, 1, []), (.aload_n 0, 1, []), (.getfield 7, 3, [0, 0, 795, 0]), (.getfield 84, 3, [8, 5, 685, 1]), (.iload_n 1, 1, []), (.iaload, 1, []), (.istore_n 3, 1, [])]),
  (119, [(.iload_n 3, 1, []), (.iload_n 2, 1, []), (.if_icmp .ge 62, 3, [183])]),
  (124, [(.aload_n 0, 1, []), (.getfield 7, 3, [0, 0, 795, 0]), (.getfield 90, 3, [8, 10, 703, 1]), (.iload_n 3, 1, []), (.iaload, 1, []), (.bipush 17, 2, []), (.if_icmp .ne 28, 3, [163])]),
  (138, [(.aload_n 0, 1, []), (.aload_n 0, 1, []), (.getfield 7, 3, [0, 0, 795, 0]), (.getfield 93, 3, [8, 4, 682, 1]), (.iload_n 1, 1, []), (.iaload, 1, []), (.aload_n 0, 1, []), (.getfield 7, 3, [0, 0, 795, 0]), (.getfield 96, 3, [8, 12, 708, 1]), (.iload_n 3, 1, []), (.iaload, 1, []), (.invokevirtual 99, 3, [210, 2, 1760, 0, 3, 0]), (.goto 17, 3, [177])]),
  (163, [(.aload_n 0, 1, []), (.iload_n 3, 1, []), (.aload_n 0, 1, []), (.getfield 7, 3, [0, 0, 795, 0]), (.getfield 90, 3, [8, 10, 703, 1]), (.iload_n 3, 1, []), (.iaload, 1, []), (.invokevirtual 103, 3, [212, 2, 1768, 0, 3, 0])]),
  (177, [(.iinc 3 1, 3, []), (.goto (-61), 3, [119])]),
  (183, [(.return_, 1, [])])]
set_option maxRecDepth 100000 in
theorem ok_Checker_checkBody : fk_okM 207 B_Checker_checkBody = true := by decide +kernel
abbrev C_Checker_checkBody : fkC := [(17, [true, true, true, false]), (119, [true, true, true, true])]
set_option maxRecDepth 100000 in
set_option maxHeartbeats 4000000 in
theorem S_Checker_checkBody {d : Nat} {a0 : Int32} {σ : fkS} {Q : Option Value → fkS → Prop} 
  (h : Wq 207 (d + 1) 17 [some (.ref 93), some (.int a0), some (.int (0 : Int32)), none] [] (sI (sI (sI σ 93 2 (0 : Int32)) 93 5 (0 : Int32)) 93 7 (0 : Int32)) Q) :
  Cl (d + 1) 207 [.ref 93, .int a0] σ Q := by
  exact Cl.run B_Checker_checkBody C_Checker_checkBody 16 fk_q207 ok_Checker_checkBody rfl h
set_option maxRecDepth 100000 in
set_option maxHeartbeats 4000000 in
theorem S_Checker_checkBody_17 {d : Nat} {v1 : Int32} {v2 : Int32} {σ : fkS} {Q : Option Value → fkS → Prop} (h93_0 : σ.2.2 93 0 = 76)
  (h : (¬ (76 : Nat) = 0 ∧
  (vp_in v1 20 ∧
  (((σ.1 78 v1.toNatClampNeg) ≤ v2 →
    (¬ (76 : Nat) = 0 ∧
    (((σ.1 75 0) ≤ (v1 + (1 : Int32)) →
      (¬ (76 : Nat) = 0 ∧
      (¬ (76 : Nat) = 0 ∧
      (vp_in v1 20 ∧
      Wq 207 (d + 1) 119 [some (.ref 93), some (.int v1), some (.int (σ.1 75 9)), some (.int (σ.1 80 v1.toNatClampNeg))] [] σ Q)))) ∧
     (¬ (σ.1 75 0) ≤ (v1 + (1 : Int32)) →
      (¬ (76 : Nat) = 0 ∧
      (vp_in (v1 + (1 : Int32)) 20 ∧
      (¬ (76 : Nat) = 0 ∧
      (vp_in v1 20 ∧
      Wq 207 (d + 1) 119 [some (.ref 93), some (.int v1), some (.int (σ.1 80 ((v1 + (1 : Int32)).toNatClampNeg))), some (.int (σ.1 80 v1.toNatClampNeg))] [] σ Q)))))))) ∧
   (¬ (σ.1 78 v1.toNatClampNeg) ≤ v2 →
    (¬ (76 : Nat) = 0 ∧
    (vp_in (((4 : Int32) * v1) + v2) 80 ∧
    (Dv d 208 [.ref 93, .int (σ.1 83 ((((4 : Int32) * v1) + v2).toNatClampNeg))] σ (fun σ1 =>
    (¬ (76 : Nat) = 0 ∧
    (vp_in (((4 : Int32) * v1) + v2) 80 ∧
    (Dv d 209 [.ref 93, .long ((sW σ1 σ).2.1 81 ((((4 : Int32) * v1) + v2).toNatClampNeg)), .int (((sW σ1 σ).1 93 2) - (1 : Int32))] (sW σ1 σ) (fun σ2 =>
    Wq 207 (d + 1) 17 [some (.ref 93), some (.int v1), some (.int (v2 + (1 : Int32))), none] [] (sW σ2 σ) Q))))))))))))) :
  Wq 207 (d + 1) 17 [some (.ref 93), some (.int v1), some (.int v2), none] [] σ Q := by
  rw [← sR_eta h93_0] at h ⊢
  exact fk_run_sound (B := B_Checker_checkBody) (C := C_Checker_checkBody) (n := 16) ok_Checker_checkBody h
set_option maxRecDepth 100000 in
set_option maxHeartbeats 4000000 in
theorem S_Checker_checkBody_119 {d : Nat} {v1 : Int32} {v2 : Int32} {v3 : Int32} {σ : fkS} {Q : Option Value → fkS → Prop} (h93_0 : σ.2.2 93 0 = 76)
  (h : ((v2 ≤ v3 →
    Q none σ) ∧
   (¬ v2 ≤ v3 →
    (¬ (76 : Nat) = 0 ∧
    (vp_in v3 3000 ∧
    ((¬ (σ.1 84 v3.toNatClampNeg) = (17 : Int32) →
      (¬ (76 : Nat) = 0 ∧
      (vp_in v3 3000 ∧
      (Dv d 212 [.ref 93, .int v3, .int (σ.1 84 v3.toNatClampNeg)] σ (fun σ1 =>
      Wq 207 (d + 1) 119 [some (.ref 93), some (.int v1), some (.int v2), some (.int (v3 + (1 : Int32)))] [] (sW σ1 σ) Q))))) ∧
     ((σ.1 84 v3.toNatClampNeg) = (17 : Int32) →
      (¬ (76 : Nat) = 0 ∧
      (vp_in v1 20 ∧
      (¬ (76 : Nat) = 0 ∧
      (vp_in v3 3000 ∧
      (Dv d 210 [.ref 93, .int (σ.1 79 v1.toNatClampNeg), .int (σ.1 86 v3.toNatClampNeg)] σ (fun σ2 =>
      Wq 207 (d + 1) 119 [some (.ref 93), some (.int v1), some (.int v2), some (.int (v3 + (1 : Int32)))] [] (sW σ2 σ) Q))))))))))))) :
  Wq 207 (d + 1) 119 [some (.ref 93), some (.int v1), some (.int v2), some (.int v3)] [] σ Q := by
  rw [← sR_eta h93_0] at h ⊢
  exact fk_run_sound (B := B_Checker_checkBody) (C := C_Checker_checkBody) (n := 16) ok_Checker_checkBody h
def B_Checker_push : fkB := [(0, [(.aload_n 0, 1, []), (.getfield 65, 3, [0, 2, 797, 0]), (.sipush 2000, 3, []), (.if_icmp .ge 23, 3, [30])]),
  (10, [(.aload_n 0, 1, []), (.getfield 13, 3, [0, 1, 796, 0]), (.aload_n 0, 1, []), (.getfield 65, 3, [0, 2, 797, 0]), (.iload_n 1, 1, []), (.iastore, 1, []), (.aload_n 0, 1, []), (.dup, 1, []), (.getfield 65, 3, [0, 2, 797, 0]), (.iconst 1, 1, []), (.iadd, 1, []), (.putfield 65, 3, [0, 2, 797, 0])]),
  (30, [(.return_, 1, [])])]
set_option maxRecDepth 100000 in
theorem ok_Checker_push : fk_okM 208 B_Checker_push = true := by decide +kernel
abbrev C_Checker_push : fkC := []
set_option maxRecDepth 100000 in
set_option maxHeartbeats 4000000 in
theorem S_Checker_push {d : Nat} {a0 : Int32} {σ : fkS} {Q : Option Value → fkS → Prop} 
  (h : (((2000 : Int32) ≤ (σ.1 93 2) →
    Q none σ) ∧
   (¬ (2000 : Int32) ≤ (σ.1 93 2) →
    (vp_in (σ.1 93 2) 2000 ∧
    Q none (sI (sI σ 94 ((σ.1 93 2).toNatClampNeg) a0) 93 2 ((σ.1 93 2) + (1 : Int32))))))) :
  Cl d 208 [.ref 93, .int a0] σ Q := by
  exact Cl.run B_Checker_push C_Checker_push 6 fk_q208 ok_Checker_push rfl h
def B_Checker_bind : fkB := [(0, [(.aload_n 0, 1, []), (.getfield 68, 3, [0, 5, 800, 0]), (.bipush 100, 2, []), (.if_icmp .ge 33, 3, [39])]),
  (9, [(.aload_n 0, 1, []), (.getfield 17, 3, [0, 3, 798, 0]), (.aload_n 0, 1, []), (.getfield 68, 3, [0, 5, 800, 0]), (.lload_n 1, 1, []), (.lastore, 1, []), (.aload_n 0, 1, []), (.getfield 21, 3, [0, 4, 799, 0]), (.aload_n 0, 1, []), (.getfield 68, 3, [0, 5, 800, 0]), (.iload_n 3, 1, []), (.iastore, 1, []), (.aload_n 0, 1, []), (.dup, 1, []), (.getfield 68, 3, [0, 5, 800, 0]), (.iconst 1, 1, []), (.iadd, 1, []), (.putfield 68, 3, [0, 5, 800, 0])]),
  (39, [(.return_, 1, [])])]
set_option maxRecDepth 100000 in
theorem ok_Checker_bind : fk_okM 209 B_Checker_bind = true := by decide +kernel
abbrev C_Checker_bind : fkC := []
set_option maxRecDepth 100000 in
set_option maxHeartbeats 4000000 in
theorem S_Checker_bind {d : Nat} {a0 : Int64} {a1 : Int32} {σ : fkS} {Q : Option Value → fkS → Prop} 
  (h : (((100 : Int32) ≤ (σ.1 93 5) →
    Q none σ) ∧
   (¬ (100 : Int32) ≤ (σ.1 93 5) →
    (vp_in (σ.1 93 5) 100 ∧
    (vp_in (σ.1 93 5) 100 ∧
    Q none (sI (sI (sL σ 95 ((σ.1 93 5).toNatClampNeg) a0) 96 ((σ.1 93 5).toNatClampNeg) a1) 93 5 ((σ.1 93 5) + (1 : Int32)))))))) :
  Cl d 209 [.ref 93, .long a0, .int a1] σ Q := by
  exact Cl.run B_Checker_bind C_Checker_bind 6 fk_q209 ok_Checker_bind rfl h
def B_Checker_want : fkB := [(0, [(.aload_n 0, 1, []), (.invokevirtual 112, 3, [211, 0, 1764, 0, 4, 0]), (.istore_n 3, 1, []), (.iload_n 3, 1, []), (.iload_n 1, 1, []), (.if_icmp .eq 16, 3, [23])]),
  (10, [(.iload_n 3, 1, []), (.ifCond .eq 12, 3, [23])]),
  (14, [(.iload_n 1, 1, []), (.ifCond .eq 8, 3, [23])]),
  (18, [(.aload_n 0, 1, []), (.iload_n 2, 1, []), (.invokevirtual 53, 3, [206, 1, 1744, 0, 3, 0])]),
  (23, [(.aload_n 0, 1, []), (.iload_n 1, 1, []), (.invokevirtual 77, 3, [208, 1, 1752, 0, 3, 0]), (.return_, 1, [])])]
set_option maxRecDepth 100000 in
theorem ok_Checker_want : fk_okM 210 B_Checker_want = true := by decide +kernel
abbrev C_Checker_want : fkC := []
set_option maxRecDepth 100000 in
set_option maxHeartbeats 4000000 in
theorem S_Checker_want {d : Nat} {a0 : Int32} {a1 : Int32} {σ : fkS} {Q : Option Value → fkS → Prop} 
  (h : (Di d 211 [.ref 93] σ (fun x2 σ1 =>
  ((x2 = a0 →
    (Dv d 208 [.ref 93, .int a0] (sW σ1 σ) (fun σ3 =>
    Q none (sW σ3 σ)))) ∧
   (¬ x2 = a0 →
    ((x2 = 0 →
      (Dv d 208 [.ref 93, .int a0] (sW σ1 σ) (fun σ4 =>
      Q none (sW σ4 σ)))) ∧
     (¬ x2 = 0 →
      ((a0 = 0 →
        (Dv d 208 [.ref 93, .int a0] (sW σ1 σ) (fun σ5 =>
        Q none (sW σ5 σ)))) ∧
       (¬ a0 = 0 →
        (Dv d 206 [.ref 93, .int a1] (sW σ1 σ) (fun σ6 =>
        (Dv d 208 [.ref 93, .int a0] (sW σ6 σ) (fun σ7 =>
        Q none (sW σ7 σ)))))))))))))) :
  Cl (d + 1) 210 [.ref 93, .int a0, .int a1] σ Q := by
  exact Cl.run B_Checker_want C_Checker_want 8 fk_q210 ok_Checker_want rfl h
def B_Checker_pop : fkB := [(0, [(.aload_n 0, 1, []), (.getfield 65, 3, [0, 2, 797, 0]), (.ifCond .gt 5, 3, [9])]),
  (7, [(.iconst 0, 1, []), (.ireturn, 1, [])]),
  (9, [(.aload_n 0, 1, []), (.dup, 1, []), (.getfield 65, 3, [0, 2, 797, 0]), (.iconst 1, 1, []), (.isub, 1, []), (.putfield 65, 3, [0, 2, 797, 0]), (.aload_n 0, 1, []), (.getfield 13, 3, [0, 1, 796, 0]), (.aload_n 0, 1, []), (.getfield 65, 3, [0, 2, 797, 0]), (.iaload, 1, []), (.ireturn, 1, [])])]
set_option maxRecDepth 100000 in
theorem ok_Checker_pop : fk_okM 211 B_Checker_pop = true := by decide +kernel
abbrev C_Checker_pop : fkC := []
set_option maxRecDepth 100000 in
set_option maxHeartbeats 4000000 in
theorem S_Checker_pop {d : Nat}  {σ : fkS} {Q : Option Value → fkS → Prop} 
  (h : ((0 < (σ.1 93 2) →
    (vp_in ((σ.1 93 2) - (1 : Int32)) 2000 ∧
    Q (some (.int (σ.1 94 (((σ.1 93 2) - (1 : Int32)).toNatClampNeg)))) (sI σ 93 2 ((σ.1 93 2) - (1 : Int32))))) ∧
   (¬ 0 < (σ.1 93 2) →
    Q (some (.int (0 : Int32))) σ))) :
  Cl d 211 [.ref 93] σ Q := by
  exact Cl.run B_Checker_pop C_Checker_pop 6 fk_q211 ok_Checker_pop rfl h
def B_Checker_check : fkB := [(0, [(.iload_n 2, 1, []), (.tableswitch 166 0 15 #[79, 87, 95, 103, 111, 119, 166, 166, 166, 166, 166, 166, 166, 166, 132, 158], 79, [167, 80, 88, 96, 104, 112, 120, 167, 167, 167, 167, 167, 167, 167, 167, 133, 159])]),
  (80, [(.aload_n 0, 1, []), (.iconst 1, 1, []), (.invokevirtual 77, 3, [208, 1, 1752, 0, 3, 0]), (.goto 88, 3, [173])]),
  (88, [(.aload_n 0, 1, []), (.iload_n 1, 1, []), (.invokevirtual 116, 3, [213, 1, 1772, 0, 3, 0]), (.goto 80, 3, [173])]),
  (96, [(.aload_n 0, 1, []), (.iload_n 1, 1, []), (.invokevirtual 119, 3, [215, 1, 1780, 0, 3, 0]), (.goto 72, 3, [173])]),
  (104, [(.aload_n 0, 1, []), (.iload_n 1, 1, []), (.invokevirtual 122, 3, [217, 1, 1789, 0, 3, 0]), (.goto 64, 3, [173])]),
  (112, [(.aload_n 0, 1, []), (.iconst 2, 1, []), (.invokevirtual 77, 3, [208, 1, 1752, 0, 3, 0]), (.goto 56, 3, [173])]),
  (120, [(.aload_n 0, 1, []), (.iconst 2, 1, []), (.invokevirtual 125, 3, [216, 1, 1784, 0, 3, 0]), (.aload_n 0, 1, []), (.iconst 2, 1, []), (.invokevirtual 77, 3, [208, 1, 1752, 0, 3, 0]), (.goto 43, 3, [173])]),
  (133, [(.aload_n 0, 1, []), (.aload_n 0, 1, []), (.getfield 7, 3, [0, 0, 795, 0]), (.getfield 128, 3, [8, 11, 706, 1]), (.iload_n 1, 1, []), (.laload, 1, []), (.l2i, 1, []), (.aload_n 0, 1, []), (.getfield 7, 3, [0, 0, 795, 0]), (.getfield 96, 3, [8, 12, 708, 1]), (.iload_n 1, 1, []), (.iaload, 1, []), (.invokevirtual 99, 3, [210, 2, 1760, 0, 3, 0]), (.goto 17, 3, [173])]),
  (159, [(.aload_n 0, 1, []), (.iload_n 1, 1, []), (.invokevirtual 131, 3, [219, 1, 1797, 0, 3, 0]), (.goto 9, 3, [173])]),
  (167, [(.aload_n 0, 1, []), (.iload_n 1, 1, []), (.iload_n 2, 1, []), (.invokevirtual 134, 3, [220, 2, 1801, 0, 3, 0])]),
  (173, [(.return_, 1, [])])]
set_option maxRecDepth 100000 in
theorem ok_Checker_check : fk_okM 212 B_Checker_check = true := by decide +kernel
abbrev C_Checker_check : fkC := []
set_option maxRecDepth 100000 in
set_option maxHeartbeats 4000000 in
theorem S_Checker_check {d : Nat} {a0 : Int32} {a1 : Int32} {σ : fkS} {Q : Option Value → fkS → Prop} (h93_0 : σ.2.2 93 0 = 76)
  (h : (((a1.toInt < 0 ∨ 15 < a1.toInt) →
    (Dv d 220 [.ref 93, .int a0, .int a1] σ (fun σ1 =>
    Q none (sW σ1 σ)))) ∧
   (a1.toInt = 0 →
    (Dv d 208 [.ref 93, .int (1 : Int32)] σ (fun σ2 =>
    Q none (sW σ2 σ)))) ∧
   (a1.toInt = 1 →
    (Dv d 213 [.ref 93, .int a0] σ (fun σ3 =>
    Q none (sW σ3 σ)))) ∧
   (a1.toInt = 2 →
    (Dv d 215 [.ref 93, .int a0] σ (fun σ4 =>
    Q none (sW σ4 σ)))) ∧
   (a1.toInt = 3 →
    (Dv d 217 [.ref 93, .int a0] σ (fun σ5 =>
    Q none (sW σ5 σ)))) ∧
   (a1.toInt = 4 →
    (Dv d 208 [.ref 93, .int (2 : Int32)] σ (fun σ6 =>
    Q none (sW σ6 σ)))) ∧
   (a1.toInt = 5 →
    (Dv d 216 [.ref 93, .int (2 : Int32)] σ (fun σ7 =>
    (Dv d 208 [.ref 93, .int (2 : Int32)] (sW σ7 σ) (fun σ8 =>
    Q none (sW σ8 σ)))))) ∧
   (a1.toInt = 6 →
    (Dv d 220 [.ref 93, .int a0, .int a1] σ (fun σ9 =>
    Q none (sW σ9 σ)))) ∧
   (a1.toInt = 7 →
    (Dv d 220 [.ref 93, .int a0, .int a1] σ (fun σ10 =>
    Q none (sW σ10 σ)))) ∧
   (a1.toInt = 8 →
    (Dv d 220 [.ref 93, .int a0, .int a1] σ (fun σ11 =>
    Q none (sW σ11 σ)))) ∧
   (a1.toInt = 9 →
    (Dv d 220 [.ref 93, .int a0, .int a1] σ (fun σ12 =>
    Q none (sW σ12 σ)))) ∧
   (a1.toInt = 10 →
    (Dv d 220 [.ref 93, .int a0, .int a1] σ (fun σ13 =>
    Q none (sW σ13 σ)))) ∧
   (a1.toInt = 11 →
    (Dv d 220 [.ref 93, .int a0, .int a1] σ (fun σ14 =>
    Q none (sW σ14 σ)))) ∧
   (a1.toInt = 12 →
    (Dv d 220 [.ref 93, .int a0, .int a1] σ (fun σ15 =>
    Q none (sW σ15 σ)))) ∧
   (a1.toInt = 13 →
    (Dv d 220 [.ref 93, .int a0, .int a1] σ (fun σ16 =>
    Q none (sW σ16 σ)))) ∧
   (a1.toInt = 14 →
    (¬ (76 : Nat) = 0 ∧
    (vp_in a0 3000 ∧
    (¬ (76 : Nat) = 0 ∧
    (vp_in a0 3000 ∧
    (Dv d 210 [.ref 93, .int ((σ.2.1 85 a0.toNatClampNeg).toInt32), .int (σ.1 86 a0.toNatClampNeg)] σ (fun σ17 =>
    Q none (sW σ17 σ)))))))) ∧
   (a1.toInt = 15 →
    (Dv d 219 [.ref 93, .int a0] σ (fun σ18 =>
    Q none (sW σ18 σ)))) ∧ True)) :
  Cl (d + 1) 212 [.ref 93, .int a0, .int a1] σ Q := by
  rw [← sR_eta h93_0] at h ⊢
  exact Cl.run B_Checker_check C_Checker_check 14 fk_q212 ok_Checker_check rfl h
def B_Checker_name : fkB := [(0, [(.aload_n 0, 1, []), (.aload_n 0, 1, []), (.getfield 7, 3, [0, 0, 795, 0]), (.getfield 128, 3, [8, 11, 706, 1]), (.iload_n 1, 1, []), (.laload, 1, []), (.invokevirtual 146, 3, [214, 1, 1776, 0, 4, 0]), (.istore_n 2, 1, []), (.iload_n 2, 1, []), (.ifCond .ge 22, 3, [37])]),
  (18, [(.aload_n 0, 1, []), (.aload_n 0, 1, []), (.getfield 7, 3, [0, 0, 795, 0]), (.getfield 96, 3, [8, 12, 708, 1]), (.iload_n 1, 1, []), (.iaload, 1, []), (.invokevirtual 53, 3, [206, 1, 1744, 0, 3, 0]), (.aload_n 0, 1, []), (.iconst 0, 1, []), (.invokevirtual 77, 3, [208, 1, 1752, 0, 3, 0]), (.return_, 1, [])]),
  (37, [(.aload_n 0, 1, []), (.getfield 7, 3, [0, 0, 795, 0]), (.getfield 128, 3, [8, 11, 706, 1]), (.iload_n 1, 1, []), (.iload_n 2, 1, []), (.i2l, 1, []), (.lastore, 1, []), (.aload_n 0, 1, []), (.aload_n 0, 1, []), (.getfield 13, 3, [0, 1, 796, 0]), (.iload_n 2, 1, []), (.iaload, 1, []), (.invokevirtual 77, 3, [208, 1, 1752, 0, 3, 0]), (.return_, 1, [])])]
set_option maxRecDepth 100000 in
theorem ok_Checker_name : fk_okM 213 B_Checker_name = true := by decide +kernel
abbrev C_Checker_name : fkC := []
set_option maxRecDepth 100000 in
set_option maxHeartbeats 4000000 in
theorem S_Checker_name {d : Nat} {a0 : Int32} {σ : fkS} {Q : Option Value → fkS → Prop} (h93_0 : σ.2.2 93 0 = 76)
  (h : (¬ (76 : Nat) = 0 ∧
  (vp_in a0 3000 ∧
  (Di d 214 [.ref 93, .long (σ.2.1 85 a0.toNatClampNeg)] σ (fun x2 σ1 =>
  ((0 ≤ x2 →
    (¬ (76 : Nat) = 0 ∧
    (vp_in a0 3000 ∧
    (vp_in x2 2000 ∧
    (Dv d 208 [.ref 93, .int ((sW σ1 σ).1 94 x2.toNatClampNeg)] (sL (sW σ1 σ) 85 a0.toNatClampNeg x2.toInt64) (fun σ3 =>
    Q none (sW σ3 σ))))))) ∧
   (¬ 0 ≤ x2 →
    (¬ (76 : Nat) = 0 ∧
    (vp_in a0 3000 ∧
    (Dv d 206 [.ref 93, .int ((sW σ1 σ).1 86 a0.toNatClampNeg)] (sW σ1 σ) (fun σ4 =>
    (Dv d 208 [.ref 93, .int (0 : Int32)] (sW σ4 σ) (fun σ5 =>
    Q none (sW σ5 σ)))))))))))))) :
  Cl (d + 1) 213 [.ref 93, .int a0] σ Q := by
  rw [← sR_eta h93_0] at h ⊢
  exact Cl.run B_Checker_name C_Checker_name 6 fk_q213 ok_Checker_name rfl h
def B_Checker_slotOf : fkB := [(0, [(.aload_n 0, 1, []), (.getfield 68, 3, [0, 5, 800, 0]), (.iconst 1, 1, []), (.isub, 1, []), (.istore_n 3, 1, [])]),
  (7, [(.iload_n 3, 1, []), (.ifCond .lt 27, 3, [35])]),
  (11, [(.aload_n 0, 1, []), (.getfield 17, 3, [0, 3, 798, 0]), (.iload_n 3, 1, []), (.laload, 1, []), (.lload_n 1, 1, []), (.lcmp, 1, []), (.ifCond .ne 10, 3, [29])]),
  (22, [(.aload_n 0, 1, []), (.getfield 21, 3, [0, 4, 799, 0]), (.iload_n 3, 1, []), (.iaload, 1, []), (.ireturn, 1, [])]),
  (29, [(.iinc 3 (-1), 3, []), (.goto (-25), 3, [7])]),
  (35, [(.iconst (-1), 1, []), (.ireturn, 1, [])])]
set_option maxRecDepth 100000 in
theorem ok_Checker_slotOf : fk_okM 214 B_Checker_slotOf = true := by decide +kernel
abbrev C_Checker_slotOf : fkC := [(7, [true, true, false, true])]
set_option maxRecDepth 100000 in
set_option maxHeartbeats 4000000 in
theorem S_Checker_slotOf {d : Nat} {a0 : Int64} {σ : fkS} {Q : Option Value → fkS → Prop} 
  (h : Wq 214 d 7 [some (.ref 93), some (.long a0), none, some (.int ((σ.1 93 5) - (1 : Int32)))] [] σ Q) :
  Cl d 214 [.ref 93, .long a0] σ Q := by
  exact Cl.run B_Checker_slotOf C_Checker_slotOf 9 fk_q214 ok_Checker_slotOf rfl h
set_option maxRecDepth 100000 in
set_option maxHeartbeats 4000000 in
theorem S_Checker_slotOf_7 {d : Nat} {v1 : Int64} {v3 : Int32} {σ : fkS} {Q : Option Value → fkS → Prop} 
  (h : ((v3 < 0 →
    Q (some (.int (-1 : Int32))) σ) ∧
   (¬ v3 < 0 →
    (vp_in v3 100 ∧
    ((¬ (lg_cmp (σ.2.1 95 v3.toNatClampNeg) v1) = 0 →
      Wq 214 d 7 [some (.ref 93), some (.long v1), none, some (.int (v3 + (-1 : Int32)))] [] σ Q) ∧
     ((lg_cmp (σ.2.1 95 v3.toNatClampNeg) v1) = 0 →
      (vp_in v3 100 ∧
      Q (some (.int (σ.1 96 v3.toNatClampNeg))) σ))))))) :
  Wq 214 d 7 [some (.ref 93), some (.long v1), none, some (.int v3)] [] σ Q := by
  exact fk_run_sound (B := B_Checker_slotOf) (C := C_Checker_slotOf) (n := 9) ok_Checker_slotOf h
def B_Checker_callOf : fkB := [(0, [(.aload_n 0, 1, []), (.getfield 7, 3, [0, 0, 795, 0]), (.aload_n 0, 1, []), (.getfield 7, 3, [0, 0, 795, 0]), (.getfield 128, 3, [8, 11, 706, 1]), (.iload_n 1, 1, []), (.laload, 1, []), (.invokevirtual 46, 3, [205, 1, 1740, 1, 4, 8]), (.istore_n 2, 1, []), (.aload_n 0, 1, []), (.aload_n 0, 1, []), (.getfield 7, 3, [0, 0, 795, 0]), (.getfield 140, 3, [8, 13, 710, 1]), (.iload_n 1, 1, []), (.iaload, 1, []), (.invokevirtual 125, 3, [216, 1, 1784, 0, 3, 0]), (.iload_n 2, 1, []), (.ifCond .ge 22, 3, [53])]),
  (34, [(.aload_n 0, 1, []), (.aload_n 0, 1, []), (.getfield 7, 3, [0, 0, 795, 0]), (.getfield 96, 3, [8, 12, 708, 1]), (.iload_n 1, 1, []), (.iaload, 1, []), (.invokevirtual 53, 3, [206, 1, 1744, 0, 3, 0]), (.aload_n 0, 1, []), (.iconst 0, 1, []), (.invokevirtual 77, 3, [208, 1, 1752, 0, 3, 0]), (.return_, 1, [])]),
  (53, [(.aload_n 0, 1, []), (.getfield 7, 3, [0, 0, 795, 0]), (.getfield 56, 3, [8, 3, 679, 1]), (.iload_n 2, 1, []), (.iaload, 1, []), (.aload_n 0, 1, []), (.getfield 7, 3, [0, 0, 795, 0]), (.getfield 140, 3, [8, 13, 710, 1]), (.iload_n 1, 1, []), (.iaload, 1, []), (.if_icmp .eq 16, 3, [87])]),
  (74, [(.aload_n 0, 1, []), (.aload_n 0, 1, []), (.getfield 7, 3, [0, 0, 795, 0]), (.getfield 96, 3, [8, 12, 708, 1]), (.iload_n 1, 1, []), (.iaload, 1, []), (.invokevirtual 53, 3, [206, 1, 1744, 0, 3, 0])]),
  (87, [(.aload_n 0, 1, []), (.getfield 7, 3, [0, 0, 795, 0]), (.getfield 128, 3, [8, 11, 706, 1]), (.iload_n 1, 1, []), (.iload_n 2, 1, []), (.i2l, 1, []), (.lastore, 1, []), (.aload_n 0, 1, []), (.aload_n 0, 1, []), (.getfield 7, 3, [0, 0, 795, 0]), (.getfield 93, 3, [8, 4, 682, 1]), (.iload_n 2, 1, []), (.iaload, 1, []), (.invokevirtual 77, 3, [208, 1, 1752, 0, 3, 0]), (.return_, 1, [])])]
set_option maxRecDepth 100000 in
theorem ok_Checker_callOf : fk_okM 215 B_Checker_callOf = true := by decide +kernel
abbrev C_Checker_callOf : fkC := [(87, [true, true, true])]
set_option maxRecDepth 100000 in
set_option maxHeartbeats 4000000 in
theorem S_Checker_callOf {d : Nat} {a0 : Int32} {σ : fkS} {Q : Option Value → fkS → Prop} (h93_0 : σ.2.2 93 0 = 76)
  (h : (¬ (76 : Nat) = 0 ∧
  (¬ (76 : Nat) = 0 ∧
  (vp_in a0 3000 ∧
  (Di d 205 [.ref 75, .long (σ.2.1 85 a0.toNatClampNeg)] σ (fun x2 σ1 =>
  (¬ (76 : Nat) = 0 ∧
  (vp_in a0 3000 ∧
  (Dv d 216 [.ref 93, .int ((sW σ1 σ).1 87 a0.toNatClampNeg)] (sW σ1 σ) (fun σ3 =>
  ((0 ≤ x2 →
    (¬ (76 : Nat) = 0 ∧
    (vp_in x2 20 ∧
    (¬ (76 : Nat) = 0 ∧
    (vp_in a0 3000 ∧
    ((((sW σ3 σ).1 78 x2.toNatClampNeg) = ((sW σ3 σ).1 87 a0.toNatClampNeg) →
      Wq 215 (d + 1) 87 [some (.ref 93), some (.int a0), some (.int x2)] [] (sW σ3 σ) Q) ∧
     (¬ ((sW σ3 σ).1 78 x2.toNatClampNeg) = ((sW σ3 σ).1 87 a0.toNatClampNeg) →
      (¬ (76 : Nat) = 0 ∧
      (vp_in a0 3000 ∧
      (Dv d 206 [.ref 93, .int ((sW σ3 σ).1 86 a0.toNatClampNeg)] (sW σ3 σ) (fun σ4 =>
      Wq 215 (d + 1) 87 [some (.ref 93), some (.int a0), some (.int x2)] [] (sW σ4 σ) Q))))))))))) ∧
   (¬ 0 ≤ x2 →
    (¬ (76 : Nat) = 0 ∧
    (vp_in a0 3000 ∧
    (Dv d 206 [.ref 93, .int ((sW σ3 σ).1 86 a0.toNatClampNeg)] (sW σ3 σ) (fun σ5 =>
    (Dv d 208 [.ref 93, .int (0 : Int32)] (sW σ5 σ) (fun σ6 =>
    Q none (sW σ6 σ))))))))))))))))))) :
  Cl (d + 1) 215 [.ref 93, .int a0] σ Q := by
  rw [← sR_eta h93_0] at h ⊢
  exact Cl.run B_Checker_callOf C_Checker_callOf 8 fk_q215 ok_Checker_callOf rfl h
set_option maxRecDepth 100000 in
set_option maxHeartbeats 4000000 in
theorem S_Checker_callOf_87 {d : Nat} {v1 : Int32} {v2 : Int32} {σ : fkS} {Q : Option Value → fkS → Prop} (h93_0 : σ.2.2 93 0 = 76)
  (h : (¬ (76 : Nat) = 0 ∧
  (vp_in v1 3000 ∧
  (¬ (76 : Nat) = 0 ∧
  (vp_in v2 20 ∧
  (Dv d 208 [.ref 93, .int (σ.1 79 v2.toNatClampNeg)] (sL σ 85 v1.toNatClampNeg v2.toInt64) (fun σ1 =>
  Q none (sW σ1 σ)))))))) :
  Wq 215 (d + 1) 87 [some (.ref 93), some (.int v1), some (.int v2)] [] σ Q := by
  rw [← sR_eta h93_0] at h ⊢
  exact fk_run_sound (B := B_Checker_callOf) (C := C_Checker_callOf) (n := 8) ok_Checker_callOf h
def B_Checker_drop : fkB := [(0, [(.aload_n 0, 1, []), (.iconst 0, 1, []), (.aload_n 0, 1, []), (.getfield 65, 3, [0, 2, 797, 0]), (.iload_n 1, 1, []), (.isub, 1, []), (.invokestatic 106, 3, [1001, 0, 1788]), (.putfield 65, 3, [0, 2, 797, 0]), (.return_, 1, [])])]
set_option maxRecDepth 100000 in
theorem ok_Checker_drop : fk_okM 216 B_Checker_drop = true := by decide +kernel
abbrev C_Checker_drop : fkC := []
set_option maxRecDepth 100000 in
set_option maxHeartbeats 4000000 in
theorem S_Checker_drop {d : Nat} {a0 : Int32} {σ : fkS} {Q : Option Value → fkS → Prop} 
  (h : Q none (sI σ 93 2 (if (0 : Int32) < ((σ.1 93 2) - a0) then ((σ.1 93 2) - a0) else (0 : Int32)))) :
  Cl (d + 1) 216 [.ref 93, .int a0] σ Q := by
  exact Cl.run B_Checker_drop C_Checker_drop 4 fk_q216 ok_Checker_drop rfl h
def B_Checker_actOf : fkB := [(0, [(.aload_n 0, 1, []), (.getfield 7, 3, [0, 0, 795, 0]), (.aload_n 0, 1, []), (.getfield 7, 3, [0, 0, 795, 0]), (.getfield 128, 3, [8, 11, 706, 1]), (.iload_n 1, 1, []), (.laload, 1, []), (.invokevirtual 46, 3, [205, 1, 1740, 1, 4, 8]), (.istore_n 2, 1, []), (.aload_n 0, 1, []), (.iconst 3, 1, []), (.invokevirtual 77, 3, [208, 1, 1752, 0, 3, 0]), (.iload_n 2, 1, []), (.ifCond .ge 17, 3, [40])]),
  (26, [(.aload_n 0, 1, []), (.aload_n 0, 1, []), (.getfield 7, 3, [0, 0, 795, 0]), (.getfield 96, 3, [8, 12, 708, 1]), (.iload_n 1, 1, []), (.iaload, 1, []), (.invokevirtual 53, 3, [206, 1, 1744, 0, 3, 0]), (.return_, 1, [])]),
  (40, [(.aload_n 0, 1, []), (.getfield 7, 3, [0, 0, 795, 0]), (.getfield 56, 3, [8, 3, 679, 1]), (.iload_n 2, 1, []), (.iaload, 1, []), (.iconst 1, 1, []), (.if_icmp .ne 14, 3, [64])]),
  (53, [(.aload_n 0, 1, []), (.getfield 7, 3, [0, 0, 795, 0]), (.iload_n 2, 1, []), (.invokevirtual 149, 3, [218, 1, 1793, 1, 4, 8]), (.ifCond .ne 16, 3, [77])]),
  (64, [(.aload_n 0, 1, []), (.aload_n 0, 1, []), (.getfield 7, 3, [0, 0, 795, 0]), (.getfield 140, 3, [8, 13, 710, 1]), (.iload_n 1, 1, []), (.iaload, 1, []), (.invokevirtual 53, 3, [206, 1, 1744, 0, 3, 0])]),
  (77, [(.aload_n 0, 1, []), (.getfield 7, 3, [0, 0, 795, 0]), (.getfield 128, 3, [8, 11, 706, 1]), (.iload_n 1, 1, []), (.iload_n 2, 1, []), (.i2l, 1, []), (.lastore, 1, []), (.return_, 1, [])])]
set_option maxRecDepth 100000 in
theorem ok_Checker_actOf : fk_okM 217 B_Checker_actOf = true := by decide +kernel
abbrev C_Checker_actOf : fkC := [(64, [true, true, true])]
set_option maxRecDepth 100000 in
set_option maxHeartbeats 4000000 in
theorem S_Checker_actOf {d : Nat} {a0 : Int32} {σ : fkS} {Q : Option Value → fkS → Prop} (h93_0 : σ.2.2 93 0 = 76)
  (h : (¬ (76 : Nat) = 0 ∧
  (¬ (76 : Nat) = 0 ∧
  (vp_in a0 3000 ∧
  (Di d 205 [.ref 75, .long (σ.2.1 85 a0.toNatClampNeg)] σ (fun x2 σ1 =>
  (Dv d 208 [.ref 93, .int (3 : Int32)] (sW σ1 σ) (fun σ3 =>
  ((0 ≤ x2 →
    (¬ (76 : Nat) = 0 ∧
    (vp_in x2 20 ∧
    ((¬ ((sW σ3 σ).1 78 x2.toNatClampNeg) = (1 : Int32) →
      Wq 217 (d + 1) 64 [some (.ref 93), some (.int a0), some (.int x2)] [] (sW σ3 σ) Q) ∧
     (((sW σ3 σ).1 78 x2.toNatClampNeg) = (1 : Int32) →
      (¬ (76 : Nat) = 0 ∧
      (Di d 218 [.ref 75, .int x2] (sW σ3 σ) (fun x5 σ4 =>
      ((¬ x5 = 0 →
        (¬ (76 : Nat) = 0 ∧
        (vp_in a0 3000 ∧
        Q none (sL (sW σ4 σ) 85 a0.toNatClampNeg x2.toInt64)))) ∧
       (x5 = 0 →
        Wq 217 (d + 1) 64 [some (.ref 93), some (.int a0), some (.int x2)] [] (sW σ4 σ) Q)))))))))) ∧
   (¬ 0 ≤ x2 →
    (¬ (76 : Nat) = 0 ∧
    (vp_in a0 3000 ∧
    (Dv d 206 [.ref 93, .int ((sW σ3 σ).1 86 a0.toNatClampNeg)] (sW σ3 σ) (fun σ6 =>
    Q none (sW σ6 σ))))))))))))))) :
  Cl (d + 1) 217 [.ref 93, .int a0] σ Q := by
  rw [← sR_eta h93_0] at h ⊢
  exact Cl.run B_Checker_actOf C_Checker_actOf 9 fk_q217 ok_Checker_actOf rfl h
set_option maxRecDepth 100000 in
set_option maxHeartbeats 4000000 in
theorem S_Checker_actOf_64 {d : Nat} {v1 : Int32} {v2 : Int32} {σ : fkS} {Q : Option Value → fkS → Prop} (h93_0 : σ.2.2 93 0 = 76)
  (h : (¬ (76 : Nat) = 0 ∧
  (vp_in v1 3000 ∧
  (Dv d 206 [.ref 93, .int (σ.1 87 v1.toNatClampNeg)] σ (fun σ1 =>
  (¬ (76 : Nat) = 0 ∧
  (vp_in v1 3000 ∧
  Q none (sL (sW σ1 σ) 85 v1.toNatClampNeg v2.toInt64)))))))) :
  Wq 217 (d + 1) 64 [some (.ref 93), some (.int v1), some (.int v2)] [] σ Q := by
  rw [← sR_eta h93_0] at h ⊢
  exact fk_run_sound (B := B_Checker_actOf) (C := C_Checker_actOf) (n := 9) ok_Checker_actOf h
def B_Program_takesAndGivesInt : fkB := [(0, [(.iload_n 1, 1, []), (.ifCond .lt 21, 3, [22])]),
  (4, [(.iload_n 1, 1, []), (.aload_n 0, 1, []), (.getfield 47, 3, [8, 0, 667, 0]), (.if_icmp .ge 13, 3, [22])]),
  (12, [(.aload_n 0, 1, []), (.getfield 20, 3, [8, 4, 681, 0]), (.iload_n 1, 1, []), (.iaload, 1, []), (.iconst 1, 1, []), (.if_icmp .eq 5, 3, [24])]),
  (22, [(.iconst 0, 1, []), (.ireturn, 1, [])]),
  (24, [(.iconst 0, 1, []), (.istore_n 2, 1, [])]),
  (26, [(.iload_n 2, 1, []), (.aload_n 0, 1, []), (.getfield 17, 3, [8, 3, 677, 0]), (.iload_n 1, 1, []), (.iaload, 1, []), (.if_icmp .ge 25, 3, [58])]),
  (36, [(.aload_n 0, 1, []), (.getfield 32, 3, [8, 8, 694, 0]), (.iconst 4, 1, []), (.iload_n 1, 1, []), (.imul, 1, []), (.iload_n 2, 1, []), (.iadd, 1, []), (.iaload, 1, []), (.iconst 1, 1, []), (.if_icmp .eq 5, 3, [52])]),
  (50, [(.iconst 0, 1, []), (.ireturn, 1, [])]),
  (52, [(.iinc 2 1, 3, []), (.goto (-29), 3, [26])]),
  (58, [(.iconst 1, 1, []), (.ireturn, 1, [])])]
set_option maxRecDepth 100000 in
theorem ok_Program_takesAndGivesInt : fk_okM 218 B_Program_takesAndGivesInt = true := by decide +kernel
abbrev C_Program_takesAndGivesInt : fkC := [(26, [true, true, true])]
set_option maxRecDepth 100000 in
set_option maxHeartbeats 4000000 in
theorem S_Program_takesAndGivesInt {d : Nat} {a0 : Int32} {σ : fkS} {Q : Option Value → fkS → Prop} 
  (h : ((a0 < 0 →
    Q (some (.int (0 : Int32))) σ) ∧
   (¬ a0 < 0 →
    (((σ.1 62 0) ≤ a0 →
      Q (some (.int (0 : Int32))) σ) ∧
     (¬ (σ.1 62 0) ≤ a0 →
      (vp_in a0 20 ∧
      (((σ.1 66 a0.toNatClampNeg) = (1 : Int32) →
        Wq 218 d 26 [some (.ref 62), some (.int a0), some (.int (0 : Int32))] [] σ Q) ∧
       (¬ (σ.1 66 a0.toNatClampNeg) = (1 : Int32) →
        Q (some (.int (0 : Int32))) σ)))))))) :
  Cl d 218 [.ref 62, .int a0] σ Q := by
  exact Cl.run B_Program_takesAndGivesInt C_Program_takesAndGivesInt 13 fk_q218 ok_Program_takesAndGivesInt rfl h
set_option maxRecDepth 100000 in
set_option maxHeartbeats 4000000 in
theorem S_Program_takesAndGivesInt_26 {d : Nat} {v1 : Int32} {v2 : Int32} {σ : fkS} {Q : Option Value → fkS → Prop} 
  (h : (vp_in v1 20 ∧
  (((σ.1 65 v1.toNatClampNeg) ≤ v2 →
    Q (some (.int (1 : Int32))) σ) ∧
   (¬ (σ.1 65 v1.toNatClampNeg) ≤ v2 →
    (vp_in (((4 : Int32) * v1) + v2) 80 ∧
    (((σ.1 70 ((((4 : Int32) * v1) + v2).toNatClampNeg)) = (1 : Int32) →
      Wq 218 d 26 [some (.ref 62), some (.int v1), some (.int (v2 + (1 : Int32)))] [] σ Q) ∧
     (¬ (σ.1 70 ((((4 : Int32) * v1) + v2).toNatClampNeg)) = (1 : Int32) →
      Q (some (.int (0 : Int32))) σ))))))) :
  Wq 218 d 26 [some (.ref 62), some (.int v1), some (.int v2)] [] σ Q := by
  exact fk_run_sound (B := B_Program_takesAndGivesInt) (C := C_Program_takesAndGivesInt) (n := 13) ok_Program_takesAndGivesInt h
def B_Program_takesAndGivesInt_v1 : fkB := [(0, [(.iload_n 1, 1, []), (.ifCond .lt 21, 3, [22])]),
  (4, [(.iload_n 1, 1, []), (.aload_n 0, 1, []), (.getfield 47, 3, [8, 0, 667, 0]), (.if_icmp .ge 13, 3, [22])]),
  (12, [(.aload_n 0, 1, []), (.getfield 20, 3, [8, 4, 681, 0]), (.iload_n 1, 1, []), (.iaload, 1, []), (.iconst 1, 1, []), (.if_icmp .eq 5, 3, [24])]),
  (22, [(.iconst 0, 1, []), (.ireturn, 1, [])]),
  (24, [(.iconst 0, 1, []), (.istore_n 2, 1, [])]),
  (26, [(.iload_n 2, 1, []), (.aload_n 0, 1, []), (.getfield 17, 3, [8, 3, 677, 0]), (.iload_n 1, 1, []), (.iaload, 1, []), (.if_icmp .ge 25, 3, [58])]),
  (36, [(.aload_n 0, 1, []), (.getfield 32, 3, [8, 8, 694, 0]), (.iconst 4, 1, []), (.iload_n 1, 1, []), (.imul, 1, []), (.iload_n 2, 1, []), (.iadd, 1, []), (.iaload, 1, []), (.iconst 1, 1, []), (.if_icmp .eq 5, 3, [52])]),
  (50, [(.iconst 0, 1, []), (.ireturn, 1, [])]),
  (52, [(.iinc 2 1, 3, []), (.goto (-29), 3, [26])]),
  (58, [(.iconst 1, 1, []), (.ireturn, 1, [])])]
set_option maxRecDepth 100000 in
theorem ok_Program_takesAndGivesInt_v1 : fk_okM 218 B_Program_takesAndGivesInt_v1 = true := by decide +kernel
abbrev C_Program_takesAndGivesInt_v1 : fkC := [(26, [true, true, true])]
set_option maxRecDepth 100000 in
set_option maxHeartbeats 4000000 in
theorem S_Program_takesAndGivesInt_v1 {d : Nat} {a0 : Int32} {σ : fkS} {Q : Option Value → fkS → Prop} 
  (h : ((a0 < 0 →
    Q (some (.int (0 : Int32))) σ) ∧
   (¬ a0 < 0 →
    (((σ.1 75 0) ≤ a0 →
      Q (some (.int (0 : Int32))) σ) ∧
     (¬ (σ.1 75 0) ≤ a0 →
      (vp_in a0 20 ∧
      (((σ.1 79 a0.toNatClampNeg) = (1 : Int32) →
        Wq 218 d 26 [some (.ref 75), some (.int a0), some (.int (0 : Int32))] [] σ Q) ∧
       (¬ (σ.1 79 a0.toNatClampNeg) = (1 : Int32) →
        Q (some (.int (0 : Int32))) σ)))))))) :
  Cl d 218 [.ref 75, .int a0] σ Q := by
  exact Cl.run B_Program_takesAndGivesInt_v1 C_Program_takesAndGivesInt_v1 13 fk_q218 ok_Program_takesAndGivesInt_v1 rfl h
set_option maxRecDepth 100000 in
set_option maxHeartbeats 4000000 in
theorem S_Program_takesAndGivesInt_v1_26 {d : Nat} {v1 : Int32} {v2 : Int32} {σ : fkS} {Q : Option Value → fkS → Prop} 
  (h : (vp_in v1 20 ∧
  (((σ.1 78 v1.toNatClampNeg) ≤ v2 →
    Q (some (.int (1 : Int32))) σ) ∧
   (¬ (σ.1 78 v1.toNatClampNeg) ≤ v2 →
    (vp_in (((4 : Int32) * v1) + v2) 80 ∧
    (((σ.1 83 ((((4 : Int32) * v1) + v2).toNatClampNeg)) = (1 : Int32) →
      Wq 218 d 26 [some (.ref 75), some (.int v1), some (.int (v2 + (1 : Int32)))] [] σ Q) ∧
     (¬ (σ.1 83 ((((4 : Int32) * v1) + v2).toNatClampNeg)) = (1 : Int32) →
      Q (some (.int (0 : Int32))) σ))))))) :
  Wq 218 d 26 [some (.ref 75), some (.int v1), some (.int v2)] [] σ Q := by
  exact fk_run_sound (B := B_Program_takesAndGivesInt_v1) (C := C_Program_takesAndGivesInt_v1) (n := 13) ok_Program_takesAndGivesInt_v1 h
def B_Checker_pass : fkB := [(0, [(.aload_n 0, 1, []), (.getfield 7, 3, [0, 0, 795, 0]), (.aload_n 0, 1, []), (.getfield 7, 3, [0, 0, 795, 0]), (.getfield 128, 3, [8, 11, 706, 1]), (.iload_n 1, 1, []), (.laload, 1, []), (.invokevirtual 46, 3, [205, 1, 1740, 1, 4, 8]), (.istore_n 2, 1, []), (.aload_n 0, 1, []), (.getfield 7, 3, [0, 0, 795, 0]), (.getfield 140, 3, [8, 13, 710, 1]), (.iload_n 1, 1, []), (.iaload, 1, []), (.istore_n 3, 1, []), (.iload_n 2, 1, []), (.ifCond .lt 42, 3, [70])]),
  (31, [(.iload_n 3, 1, []), (.aload_n 0, 1, []), (.getfield 7, 3, [0, 0, 795, 0]), (.getfield 56, 3, [8, 3, 679, 1]), (.iload_n 2, 1, []), (.iaload, 1, []), (.if_icmp .ge 29, 3, [70])]),
  (44, [(.aload_n 0, 1, []), (.aload_n 0, 1, []), (.getfield 7, 3, [0, 0, 795, 0]), (.getfield 74, 3, [8, 8, 695, 1]), (.iconst 4, 1, []), (.iload_n 2, 1, []), (.imul, 1, []), (.iload_n 3, 1, []), (.iadd, 1, []), (.iaload, 1, []), (.aload_n 0, 1, []), (.getfield 7, 3, [0, 0, 795, 0]), (.getfield 96, 3, [8, 12, 708, 1]), (.iload_n 1, 1, []), (.iaload, 1, []), (.invokevirtual 99, 3, [210, 2, 1760, 0, 3, 0])]),
  (70, [(.return_, 1, [])])]
set_option maxRecDepth 100000 in
theorem ok_Checker_pass : fk_okM 219 B_Checker_pass = true := by decide +kernel
abbrev C_Checker_pass : fkC := []
set_option maxRecDepth 100000 in
set_option maxHeartbeats 4000000 in
theorem S_Checker_pass {d : Nat} {a0 : Int32} {σ : fkS} {Q : Option Value → fkS → Prop} (h93_0 : σ.2.2 93 0 = 76)
  (h : (¬ (76 : Nat) = 0 ∧
  (¬ (76 : Nat) = 0 ∧
  (vp_in a0 3000 ∧
  (Di d 205 [.ref 75, .long (σ.2.1 85 a0.toNatClampNeg)] σ (fun x2 σ1 =>
  (¬ (76 : Nat) = 0 ∧
  (vp_in a0 3000 ∧
  ((x2 < 0 →
    Q none (sW σ1 σ)) ∧
   (¬ x2 < 0 →
    (¬ (76 : Nat) = 0 ∧
    (vp_in x2 20 ∧
    ((((sW σ1 σ).1 78 x2.toNatClampNeg) ≤ ((sW σ1 σ).1 87 a0.toNatClampNeg) →
      Q none (sW σ1 σ)) ∧
     (¬ ((sW σ1 σ).1 78 x2.toNatClampNeg) ≤ ((sW σ1 σ).1 87 a0.toNatClampNeg) →
      (¬ (76 : Nat) = 0 ∧
      (vp_in (((4 : Int32) * x2) + ((sW σ1 σ).1 87 a0.toNatClampNeg)) 80 ∧
      (¬ (76 : Nat) = 0 ∧
      (vp_in a0 3000 ∧
      (Dv d 210 [.ref 93, .int ((sW σ1 σ).1 83 ((((4 : Int32) * x2) + ((sW σ1 σ).1 87 a0.toNatClampNeg)).toNatClampNeg)), .int ((sW σ1 σ).1 86 a0.toNatClampNeg)] (sW σ1 σ) (fun σ3 =>
      Q none (sW σ3 σ))))))))))))))))))))) :
  Cl (d + 1) 219 [.ref 93, .int a0] σ Q := by
  rw [← sR_eta h93_0] at h ⊢
  exact Cl.run B_Checker_pass C_Checker_pass 7 fk_q219 ok_Checker_pass rfl h
def B_Checker_checkParts : fkB := [(0, [(.iload_n 2, 1, []), (.tableswitch 172 7 16 #[55, 58, 66, 58, 73, 86, 116, 172, 172, 133], 55, [173, 56, 59, 67, 59, 74, 87, 117, 173, 173, 134])]),
  (56, [(.goto 127, 3, [183])]),
  (59, [(.aload_n 0, 1, []), (.invokevirtual 112, 3, [211, 0, 1764, 0, 4, 0]), (.pop, 1, []), (.goto 119, 3, [183])]),
  (67, [(.aload_n 0, 1, []), (.invokevirtual 137, 3, [221, 0, 1805, 0, 3, 0]), (.goto 112, 3, [183])]),
  (74, [(.aload_n 0, 1, []), (.iconst 1, 1, []), (.invokevirtual 77, 3, [208, 1, 1752, 0, 3, 0]), (.aload_n 0, 1, []), (.iconst 2, 1, []), (.invokevirtual 77, 3, [208, 1, 1752, 0, 3, 0]), (.goto 99, 3, [183])]),
  (87, [(.aload_n 0, 1, []), (.aload_n 0, 1, []), (.getfield 7, 3, [0, 0, 795, 0]), (.getfield 128, 3, [8, 11, 706, 1]), (.iload_n 1, 1, []), (.laload, 1, []), (.aload_n 0, 1, []), (.getfield 65, 3, [0, 2, 797, 0]), (.aload_n 0, 1, []), (.getfield 7, 3, [0, 0, 795, 0]), (.getfield 140, 3, [8, 13, 710, 1]), (.iload_n 1, 1, []), (.iaload, 1, []), (.isub, 1, []), (.invokevirtual 80, 3, [209, 2, 1756, 0, 3, 0]), (.goto 69, 3, [183])]),
  (117, [(.aload_n 0, 1, []), (.aload_n 0, 1, []), (.getfield 7, 3, [0, 0, 795, 0]), (.getfield 128, 3, [8, 11, 706, 1]), (.iload_n 1, 1, []), (.laload, 1, []), (.l2i, 1, []), (.invokevirtual 143, 3, [222, 1, 1809, 0, 3, 0]), (.goto 52, 3, [183])]),
  (134, [(.aload_n 0, 1, []), (.iconst 0, 1, []), (.aload_n 0, 1, []), (.getfield 71, 3, [0, 7, 802, 0]), (.iconst 1, 1, []), (.isub, 1, []), (.invokestatic 106, 3, [1001, 0, 1788]), (.putfield 71, 3, [0, 7, 802, 0]), (.aload_n 0, 1, []), (.aload_n 0, 1, []), (.getfield 24, 3, [0, 6, 801, 0]), (.aload_n 0, 1, []), (.getfield 71, 3, [0, 7, 802, 0]), (.iaload, 1, []), (.aload_n 0, 1, []), (.getfield 7, 3, [0, 0, 795, 0]), (.getfield 96, 3, [8, 12, 708, 1]), (.iload_n 1, 1, []), (.iaload, 1, []), (.invokevirtual 99, 3, [210, 2, 1760, 0, 3, 0]), (.goto 13, 3, [183])]),
  (173, [(.aload_n 0, 1, []), (.iconst 2, 1, []), (.invokevirtual 125, 3, [216, 1, 1784, 0, 3, 0]), (.aload_n 0, 1, []), (.iconst 1, 1, []), (.invokevirtual 77, 3, [208, 1, 1752, 0, 3, 0])]),
  (183, [(.return_, 1, [])])]
set_option maxRecDepth 100000 in
theorem ok_Checker_checkParts : fk_okM 220 B_Checker_checkParts = true := by decide +kernel
abbrev C_Checker_checkParts : fkC := []
set_option maxRecDepth 100000 in
set_option maxHeartbeats 4000000 in
theorem S_Checker_checkParts {d : Nat} {a0 : Int32} {a1 : Int32} {σ : fkS} {Q : Option Value → fkS → Prop} (h93_0 : σ.2.2 93 0 = 76)
  (h : (((a1.toInt < 7 ∨ 16 < a1.toInt) →
    (Dv d 216 [.ref 93, .int (2 : Int32)] σ (fun σ1 =>
    (Dv d 208 [.ref 93, .int (1 : Int32)] (sW σ1 σ) (fun σ2 =>
    Q none (sW σ2 σ)))))) ∧
   (a1.toInt = 7 →
    Q none σ) ∧
   (a1.toInt = 8 →
    (Di d 211 [.ref 93] σ (fun x4 σ3 =>
    Q none (sW σ3 σ)))) ∧
   (a1.toInt = 9 →
    (Dv d 221 [.ref 93] σ (fun σ5 =>
    Q none (sW σ5 σ)))) ∧
   (a1.toInt = 10 →
    (Di d 211 [.ref 93] σ (fun x7 σ6 =>
    Q none (sW σ6 σ)))) ∧
   (a1.toInt = 11 →
    (Dv d 208 [.ref 93, .int (1 : Int32)] σ (fun σ8 =>
    (Dv d 208 [.ref 93, .int (2 : Int32)] (sW σ8 σ) (fun σ9 =>
    Q none (sW σ9 σ)))))) ∧
   (a1.toInt = 12 →
    (¬ (76 : Nat) = 0 ∧
    (vp_in a0 3000 ∧
    (¬ (76 : Nat) = 0 ∧
    (vp_in a0 3000 ∧
    (Dv d 209 [.ref 93, .long (σ.2.1 85 a0.toNatClampNeg), .int ((σ.1 93 2) - (σ.1 87 a0.toNatClampNeg))] σ (fun σ10 =>
    Q none (sW σ10 σ)))))))) ∧
   (a1.toInt = 13 →
    (¬ (76 : Nat) = 0 ∧
    (vp_in a0 3000 ∧
    (Dv d 222 [.ref 93, .int ((σ.2.1 85 a0.toNatClampNeg).toInt32)] σ (fun σ11 =>
    Q none (sW σ11 σ)))))) ∧
   (a1.toInt = 14 →
    (Dv d 216 [.ref 93, .int (2 : Int32)] σ (fun σ12 =>
    (Dv d 208 [.ref 93, .int (1 : Int32)] (sW σ12 σ) (fun σ13 =>
    Q none (sW σ13 σ)))))) ∧
   (a1.toInt = 15 →
    (Dv d 216 [.ref 93, .int (2 : Int32)] σ (fun σ14 =>
    (Dv d 208 [.ref 93, .int (1 : Int32)] (sW σ14 σ) (fun σ15 =>
    Q none (sW σ15 σ)))))) ∧
   (a1.toInt = 16 →
    (vp_in (if (0 : Int32) < ((σ.1 93 7) - (1 : Int32)) then ((σ.1 93 7) - (1 : Int32)) else (0 : Int32)) 40 ∧
    (¬ (76 : Nat) = 0 ∧
    (vp_in a0 3000 ∧
    (Dv d 210 [.ref 93, .int (σ.1 97 ((if (0 : Int32) < ((σ.1 93 7) - (1 : Int32)) then ((σ.1 93 7) - (1 : Int32)) else (0 : Int32)).toNatClampNeg)), .int (σ.1 86 a0.toNatClampNeg)] (sI σ 93 7 (if (0 : Int32) < ((σ.1 93 7) - (1 : Int32)) then ((σ.1 93 7) - (1 : Int32)) else (0 : Int32))) (fun σ16 =>
    Q none (sW σ16 σ))))))) ∧ True)) :
  Cl (d + 1) 220 [.ref 93, .int a0, .int a1] σ Q := by
  rw [← sR_eta h93_0] at h ⊢
  exact Cl.run B_Checker_checkParts C_Checker_checkParts 13 fk_q220 ok_Checker_checkParts rfl h
def B_Checker_endFirstPart : fkB := [(0, [(.aload_n 0, 1, []), (.invokevirtual 112, 3, [211, 0, 1764, 0, 4, 0]), (.istore_n 1, 1, []), (.aload_n 0, 1, []), (.getfield 71, 3, [0, 7, 802, 0]), (.bipush 40, 2, []), (.if_icmp .ge 23, 3, [34])]),
  (14, [(.aload_n 0, 1, []), (.getfield 24, 3, [0, 6, 801, 0]), (.aload_n 0, 1, []), (.getfield 71, 3, [0, 7, 802, 0]), (.iload_n 1, 1, []), (.iastore, 1, []), (.aload_n 0, 1, []), (.dup, 1, []), (.getfield 71, 3, [0, 7, 802, 0]), (.iconst 1, 1, []), (.iadd, 1, []), (.putfield 71, 3, [0, 7, 802, 0])]),
  (34, [(.return_, 1, [])])]
set_option maxRecDepth 100000 in
theorem ok_Checker_endFirstPart : fk_okM 221 B_Checker_endFirstPart = true := by decide +kernel
abbrev C_Checker_endFirstPart : fkC := []
set_option maxRecDepth 100000 in
set_option maxHeartbeats 4000000 in
theorem S_Checker_endFirstPart {d : Nat}  {σ : fkS} {Q : Option Value → fkS → Prop} 
  (h : (Di d 211 [.ref 93] σ (fun x2 σ1 =>
  (((40 : Int32) ≤ ((sW σ1 σ).1 93 7) →
    Q none (sW σ1 σ)) ∧
   (¬ (40 : Int32) ≤ ((sW σ1 σ).1 93 7) →
    (vp_in ((sW σ1 σ).1 93 7) 40 ∧
    Q none (sI (sI (sW σ1 σ) 97 (((sW σ1 σ).1 93 7).toNatClampNeg) x2) 93 7 (((sW σ1 σ).1 93 7) + (1 : Int32))))))))) :
  Cl (d + 1) 221 [.ref 93] σ Q := by
  exact Cl.run B_Checker_endFirstPart C_Checker_endFirstPart 6 fk_q221 ok_Checker_endFirstPart rfl h
def B_Checker_unbind : fkB := [(0, [(.aload_n 0, 1, []), (.invokevirtual 112, 3, [211, 0, 1764, 0, 4, 0]), (.istore_n 2, 1, []), (.aload_n 0, 1, []), (.iload_n 1, 1, []), (.invokevirtual 125, 3, [216, 1, 1784, 0, 3, 0]), (.aload_n 0, 1, []), (.iconst 0, 1, []), (.aload_n 0, 1, []), (.getfield 68, 3, [0, 5, 800, 0]), (.iload_n 1, 1, []), (.isub, 1, []), (.invokestatic 106, 3, [1001, 0, 1788]), (.putfield 68, 3, [0, 5, 800, 0]), (.aload_n 0, 1, []), (.iload_n 2, 1, []), (.invokevirtual 77, 3, [208, 1, 1752, 0, 3, 0]), (.return_, 1, [])])]
set_option maxRecDepth 100000 in
theorem ok_Checker_unbind : fk_okM 222 B_Checker_unbind = true := by decide +kernel
abbrev C_Checker_unbind : fkC := []
set_option maxRecDepth 100000 in
set_option maxHeartbeats 4000000 in
theorem S_Checker_unbind {d : Nat} {a0 : Int32} {σ : fkS} {Q : Option Value → fkS → Prop} 
  (h : (Di d 211 [.ref 93] σ (fun x2 σ1 =>
  (Dv d 216 [.ref 93, .int a0] (sW σ1 σ) (fun σ3 =>
  (Dv d 208 [.ref 93, .int x2] (sI (sW σ3 σ) 93 5 (if (0 : Int32) < (((sW σ3 σ).1 93 5) - a0) then (((sW σ3 σ).1 93 5) - a0) else (0 : Int32))) (fun σ4 =>
  Q none (sW σ4 σ)))))))) :
  Cl (d + 1) 222 [.ref 93, .int a0] σ Q := by
  exact Cl.run B_Checker_unbind C_Checker_unbind 4 fk_q222 ok_Checker_unbind rfl h
def B_Runner_start : fkB := [(0, [(.aload_n 0, 1, []), (.aload_n 1, 1, []), (.putfield 7, 3, [9, 0, 829, 0]), (.aload_n 0, 1, []), (.iconst 0, 1, []), (.putfield 42, 3, [9, 4, 833, 0]), (.aload_n 0, 1, []), (.iconst 0, 1, []), (.putfield 45, 3, [9, 6, 835, 0]), (.aload_n 0, 1, []), (.iconst 0, 1, []), (.putfield 26, 3, [9, 9, 838, 0]), (.aload_n 0, 1, []), (.iconst 0, 1, []), (.putfield 30, 3, [9, 10, 840, 0]), (.aload_n 0, 1, []), (.iconst 0, 1, []), (.putfield 33, 3, [9, 11, 842, 0]), (.aload_n 0, 1, []), (.iconst 0, 1, []), (.putfield 36, 3, [9, 12, 844, 0]), (.iconst 0, 1, []), (.istore 4, 2, [])]),
  (38, [(.iload 4, 2, []), (.aload_n 0, 1, []), (.getfield 7, 3, [9, 0, 829, 0]), (.getfield 48, 3, [8, 3, 678, 1]), (.iload_n 2, 1, []), (.iaload, 1, []), (.if_icmp .ge 25, 3, [74])]),
  (52, [(.iload 4, 2, []), (.aload_n 3, 1, []), (.arraylength, 1, []), (.if_icmp .ge 18, 3, [74])]),
  (59, [(.aload_n 0, 1, []), (.aload_n 3, 1, []), (.iload 4, 2, []), (.laload, 1, []), (.l2i, 1, []), (.invokevirtual 53, 3, [225, 1, 1822, 0, 3, 9]), (.iinc 4 1, 3, []), (.goto (-33), 3, [38])]),
  (74, [(.aload_n 0, 1, []), (.iload_n 2, 1, []), (.iconst 0, 1, []), (.invokevirtual 57, 3, [226, 2, 1826, 0, 3, 9]), (.iconst 0, 1, []), (.istore 4, 2, [])]),
  (83, [(.iload 4, 2, []), (.ldc 61, 2, [50000000, 1831]), (.if_icmp .ge 79, 3, [166])]),
  (90, [(.aload_n 0, 1, []), (.getfield 45, 3, [9, 6, 835, 0]), (.ifCond .le 72, 3, [166])]),
  (97, [(.aload_n 0, 1, []), (.getfield 36, 3, [9, 12, 844, 0]), (.ifCond .ne 65, 3, [166])]),
  (104, [(.aload_n 0, 1, []), (.getfield 62, 3, [9, 8, 837, 0]), (.aload_n 0, 1, []), (.getfield 7, 3, [9, 0, 829, 0]), (.getfield 65, 3, [8, 9, 698, 1]), (.if_icmp .ge 51, 3, [166])]),
  (118, [(.aload_n 0, 1, []), (.dup, 1, []), (.getfield 62, 3, [9, 8, 837, 0]), (.iconst 1, 1, []), (.iadd, 1, []), (.putfield 62, 3, [9, 8, 837, 0]), (.aload_n 0, 1, []), (.aload_n 0, 1, []), (.getfield 7, 3, [9, 0, 829, 0]), (.getfield 68, 3, [8, 10, 702, 1]), (.aload_n 0, 1, []), (.getfield 62, 3, [9, 8, 837, 0]), (.iconst 1, 1, []), (.isub, 1, []), (.iaload, 1, []), (.aload_n 0, 1, []), (.getfield 7, 3, [9, 0, 829, 0]), (.getfield 71, 3, [8, 11, 705, 1]), (.aload_n 0, 1, []), (.getfield 62, 3, [9, 8, 837, 0]), (.iconst 1, 1, []), (.isub, 1, []), (.laload, 1, []), (.invokevirtual 75, 3, [227, 2, 1832, 0, 3, 9]), (.iinc 4 1, 3, []), (.goto (-80), 3, [83])]),
  (166, [(.aload_n 0, 1, []), (.aload_n 0, 1, []), (.getfield 36, 3, [9, 12, 844, 0]), (.ifCond .ne 10, 3, [181])]),
  (174, [(.aload_n 0, 1, []), (.invokevirtual 79, 3, [229, 0, 1840, 0, 4, 9]), (.goto 4, 3, [182])]),
  (181, [(.iconst 0, 1, [])]),
  (182, [(.putfield 39, 3, [9, 13, 846, 0]), (.return_, 1, [])])]
set_option maxRecDepth 100000 in
theorem ok_Runner_start : fk_okM 224 B_Runner_start = true := by decide +kernel
abbrev C_Runner_start : fkC := [(38, [true, false, true, true, true]), (83, [true, false, false, false, true])]
set_option maxRecDepth 100000 in
set_option maxHeartbeats 4000000 in
theorem S_Runner_start {d : Nat} {a1 : Int32} {σ : fkS} {Q : Option Value → fkS → Prop} 
  (h : Wq 224 (d + 1) 38 [some (.ref 98), none, some (.int a1), some (.ref 2), some (.int (0 : Int32))] [] (sI (sI (sI (sI (sI (sI (sR σ 98 0 63) 98 4 (0 : Int32)) 98 6 (0 : Int32)) 98 9 (0 : Int32)) 98 10 (0 : Int32)) 98 11 (0 : Int32)) 98 12 (0 : Int32)) Q) :
  Cl (d + 1) 224 [.ref 98, .ref 62, .int a1, .ref 2] σ Q := by
  exact Cl.run B_Runner_start C_Runner_start 17 fk_q224 ok_Runner_start rfl h
set_option maxRecDepth 100000 in
set_option maxHeartbeats 4000000 in
theorem S_Runner_start_38 {d : Nat} {v2 : Int32} {v4 : Int32} {σ : fkS} {Q : Option Value → fkS → Prop} (h98_0 : σ.2.2 98 0 = 63)
  (h : (¬ (63 : Nat) = 0 ∧
  (vp_in v2 20 ∧
  (((σ.1 65 v2.toNatClampNeg) ≤ v4 →
    (Dv d 226 [.ref 98, .int v2, .int (0 : Int32)] σ (fun σ1 =>
    Wq 224 (d + 1) 83 [some (.ref 98), none, none, none, some (.int (0 : Int32))] [] (sW σ1 σ) Q))) ∧
   (¬ (σ.1 65 v2.toNatClampNeg) ≤ v4 →
    (((8 : Int32) ≤ v4 →
      (Dv d 226 [.ref 98, .int v2, .int (0 : Int32)] σ (fun σ2 =>
      Wq 224 (d + 1) 83 [some (.ref 98), none, none, none, some (.int (0 : Int32))] [] (sW σ2 σ) Q))) ∧
     (¬ (8 : Int32) ≤ v4 →
      (vp_in v4 8 ∧
      (Dv d 225 [.ref 98, .int ((σ.2.1 2 v4.toNatClampNeg).toInt32)] σ (fun σ3 =>
      Wq 224 (d + 1) 38 [some (.ref 98), none, some (.int v2), some (.ref 2), some (.int (v4 + (1 : Int32)))] [] (sW σ3 σ) Q)))))))))) :
  Wq 224 (d + 1) 38 [some (.ref 98), none, some (.int v2), some (.ref 2), some (.int v4)] [] σ Q := by
  rw [← sR_eta h98_0] at h ⊢
  exact fk_run_sound (B := B_Runner_start) (C := C_Runner_start) (n := 17) ok_Runner_start h
set_option maxRecDepth 100000 in
set_option maxHeartbeats 4000000 in
theorem S_Runner_start_83 {d : Nat} {v4 : Int32} {σ : fkS} {Q : Option Value → fkS → Prop} (h98_0 : σ.2.2 98 0 = 63)
  (h : (((50000000 : Int32) ≤ v4 →
    ((¬ (σ.1 98 12) = 0 →
      Q none (sI σ 98 13 (0 : Int32))) ∧
     ((σ.1 98 12) = 0 →
      (Di d 229 [.ref 98] σ (fun x2 σ1 =>
      Q none (sI (sW σ1 σ) 98 13 x2)))))) ∧
   (¬ (50000000 : Int32) ≤ v4 →
    (((σ.1 98 6) ≤ 0 →
      ((¬ (σ.1 98 12) = 0 →
        Q none (sI σ 98 13 (0 : Int32))) ∧
       ((σ.1 98 12) = 0 →
        (Di d 229 [.ref 98] σ (fun x4 σ3 =>
        Q none (sI (sW σ3 σ) 98 13 x4)))))) ∧
     (¬ (σ.1 98 6) ≤ 0 →
      ((¬ (σ.1 98 12) = 0 →
        ((¬ (σ.1 98 12) = 0 →
          Q none (sI σ 98 13 (0 : Int32))) ∧
         ((σ.1 98 12) = 0 →
          (Di d 229 [.ref 98] σ (fun x6 σ5 =>
          Q none (sI (sW σ5 σ) 98 13 x6)))))) ∧
       ((σ.1 98 12) = 0 →
        (¬ (63 : Nat) = 0 ∧
        (((σ.1 62 9) ≤ (σ.1 98 8) →
          ((¬ (σ.1 98 12) = 0 →
            Q none (sI σ 98 13 (0 : Int32))) ∧
           ((σ.1 98 12) = 0 →
            (Di d 229 [.ref 98] σ (fun x8 σ7 =>
            Q none (sI (sW σ7 σ) 98 13 x8)))))) ∧
         (¬ (σ.1 62 9) ≤ (σ.1 98 8) →
          (¬ (63 : Nat) = 0 ∧
          (vp_in (((σ.1 98 8) + (1 : Int32)) - (1 : Int32)) 3000 ∧
          (¬ (63 : Nat) = 0 ∧
          (vp_in (((σ.1 98 8) + (1 : Int32)) - (1 : Int32)) 3000 ∧
          (Dv d 227 [.ref 98, .int (σ.1 71 ((((σ.1 98 8) + (1 : Int32)) - (1 : Int32)).toNatClampNeg)), .long (σ.2.1 72 ((((σ.1 98 8) + (1 : Int32)) - (1 : Int32)).toNatClampNeg))] (sI σ 98 8 ((σ.1 98 8) + (1 : Int32))) (fun σ9 =>
          Wq 224 (d + 1) 83 [some (.ref 98), none, none, none, some (.int (v4 + (1 : Int32)))] [] (sW σ9 σ) Q)))))))))))))))) :
  Wq 224 (d + 1) 83 [some (.ref 98), none, none, none, some (.int v4)] [] σ Q := by
  rw [← sR_eta h98_0] at h ⊢
  exact fk_run_sound (B := B_Runner_start) (C := C_Runner_start) (n := 17) ok_Runner_start h
def B_Runner_push : fkB := [(0, [(.aload_n 0, 1, []), (.getfield 42, 3, [9, 4, 833, 0]), (.sipush 12000, 3, []), (.if_icmp .ge 23, 3, [30])]),
  (10, [(.aload_n 0, 1, []), (.getfield 20, 3, [9, 3, 832, 0]), (.aload_n 0, 1, []), (.getfield 42, 3, [9, 4, 833, 0]), (.iload_n 1, 1, []), (.iastore, 1, []), (.aload_n 0, 1, []), (.dup, 1, []), (.getfield 42, 3, [9, 4, 833, 0]), (.iconst 1, 1, []), (.iadd, 1, []), (.putfield 42, 3, [9, 4, 833, 0])]),
  (30, [(.return_, 1, [])])]
set_option maxRecDepth 100000 in
theorem ok_Runner_push : fk_okM 225 B_Runner_push = true := by decide +kernel
abbrev C_Runner_push : fkC := []
set_option maxRecDepth 100000 in
set_option maxHeartbeats 4000000 in
theorem S_Runner_push {d : Nat} {a0 : Int32} {σ : fkS} {Q : Option Value → fkS → Prop} 
  (h : (((12000 : Int32) ≤ (σ.1 98 4) →
    Q none σ) ∧
   (¬ (12000 : Int32) ≤ (σ.1 98 4) →
    (vp_in (σ.1 98 4) 12000 ∧
    Q none (sI (sI σ 101 ((σ.1 98 4).toNatClampNeg) a0) 98 4 ((σ.1 98 4) + (1 : Int32))))))) :
  Cl d 225 [.ref 98, .int a0] σ Q := by
  exact Cl.run B_Runner_push C_Runner_push 6 fk_q225 ok_Runner_push rfl h
def B_Runner_enter : fkB := [(0, [(.aload_n 0, 1, []), (.getfield 45, 3, [9, 6, 835, 0]), (.bipush 60, 2, []), (.if_icmp .lt 9, 3, [15])]),
  (9, [(.aload_n 0, 1, []), (.iconst 3, 1, []), (.putfield 36, 3, [9, 12, 844, 0]), (.return_, 1, [])]),
  (15, [(.aload_n 0, 1, []), (.getfield 30, 3, [9, 10, 840, 0]), (.sipush 5000, 3, []), (.if_icmp .lt 9, 3, [31])]),
  (25, [(.aload_n 0, 1, []), (.iconst 4, 1, []), (.putfield 36, 3, [9, 12, 844, 0]), (.return_, 1, [])]),
  (31, [(.aload_n 0, 1, []), (.dup, 1, []), (.getfield 30, 3, [9, 10, 840, 0]), (.iconst 1, 1, []), (.iadd, 1, []), (.putfield 30, 3, [9, 10, 840, 0]), (.aload_n 0, 1, []), (.aload_n 0, 1, []), (.getfield 42, 3, [9, 4, 833, 0]), (.aload_n 0, 1, []), (.getfield 7, 3, [9, 0, 829, 0]), (.getfield 48, 3, [8, 3, 678, 1]), (.iload_n 1, 1, []), (.iaload, 1, []), (.isub, 1, []), (.putfield 83, 3, [9, 7, 836, 0]), (.aload_n 0, 1, []), (.getfield 23, 3, [9, 5, 834, 0]), (.iconst 2, 1, []), (.aload_n 0, 1, []), (.getfield 45, 3, [9, 6, 835, 0]), (.imul, 1, []), (.aload_n 0, 1, []), (.getfield 83, 3, [9, 7, 836, 0]), (.iastore, 1, []), (.aload_n 0, 1, []), (.getfield 23, 3, [9, 5, 834, 0]), (.iconst 2, 1, []), (.aload_n 0, 1, []), (.getfield 45, 3, [9, 6, 835, 0]), (.imul, 1, []), (.iconst 1, 1, []), (.iadd, 1, []), (.iload_n 2, 1, []), (.iastore, 1, []), (.aload_n 0, 1, []), (.dup, 1, []), (.getfield 45, 3, [9, 6, 835, 0]), (.iconst 1, 1, []), (.iadd, 1, []), (.putfield 45, 3, [9, 6, 835, 0]), (.aload_n 0, 1, []), (.aload_n 0, 1, []), (.getfield 33, 3, [9, 11, 842, 0]), (.aload_n 0, 1, []), (.getfield 45, 3, [9, 6, 835, 0]), (.invokestatic 86, 3, [1001, 0, 1830]), (.putfield 33, 3, [9, 11, 842, 0]), (.aload_n 0, 1, []), (.aload_n 0, 1, []), (.getfield 7, 3, [9, 0, 829, 0]), (.getfield 92, 3, [8, 5, 686, 1]), (.iload_n 1, 1, []), (.iaload, 1, []), (.putfield 62, 3, [9, 8, 837, 0]), (.return_, 1, [])])]
set_option maxRecDepth 100000 in
theorem ok_Runner_enter : fk_okM 226 B_Runner_enter = true := by decide +kernel
abbrev C_Runner_enter : fkC := []
set_option maxRecDepth 100000 in
set_option maxHeartbeats 4000000 in
theorem S_Runner_enter {d : Nat} {a0 : Int32} {a1 : Int32} {σ : fkS} {Q : Option Value → fkS → Prop} (h98_0 : σ.2.2 98 0 = 63)
  (h : (((σ.1 98 6) < (60 : Int32) →
    (((σ.1 98 10) < (5000 : Int32) →
      (¬ (63 : Nat) = 0 ∧
      (vp_in a0 20 ∧
      (vp_in ((2 : Int32) * (σ.1 98 6)) 120 ∧
      (vp_in (((2 : Int32) * (σ.1 98 6)) + (1 : Int32)) 120 ∧
      (¬ (63 : Nat) = 0 ∧
      (vp_in a0 20 ∧
      Q none (sI (sI (sI (sI (sI (sI (sI σ 98 10 ((σ.1 98 10) + (1 : Int32))) 98 7 ((σ.1 98 4) - (σ.1 65 a0.toNatClampNeg))) 102 (((2 : Int32) * (σ.1 98 6)).toNatClampNeg) ((σ.1 98 4) - (σ.1 65 a0.toNatClampNeg))) 102 ((((2 : Int32) * (σ.1 98 6)) + (1 : Int32)).toNatClampNeg) a1) 98 6 ((σ.1 98 6) + (1 : Int32))) 98 11 (if (σ.1 98 11) < ((σ.1 98 6) + (1 : Int32)) then ((σ.1 98 6) + (1 : Int32)) else (σ.1 98 11))) 98 8 (σ.1 67 a0.toNatClampNeg))))))))) ∧
     (¬ (σ.1 98 10) < (5000 : Int32) →
      Q none (sI σ 98 12 (4 : Int32))))) ∧
   (¬ (σ.1 98 6) < (60 : Int32) →
    Q none (sI σ 98 12 (3 : Int32))))) :
  Cl (d + 1) 226 [.ref 98, .int a0, .int a1] σ Q := by
  rw [← sR_eta h98_0] at h ⊢
  exact Cl.run B_Runner_enter C_Runner_enter 8 fk_q226 ok_Runner_enter rfl h
def B_Runner_step : fkB := [(0, [(.iload_n 1, 1, []), (.bipush 32, 2, []), (.if_icmp .lt 9, 3, [12])]),
  (6, [(.aload_n 0, 1, []), (.iload_n 1, 1, []), (.invokevirtual 95, 3, [228, 1, 1836, 0, 3, 9]), (.return_, 1, [])]),
  (12, [(.iload_n 1, 1, []), (.tableswitch 192 0 17 #[87, 96, 114, 87, 127, 135, 142, 173, 192, 192, 192, 192, 192, 192, 192, 192, 192, 185], 87, [205, 100, 109, 127, 100, 140, 148, 155, 186, 205, 205, 205, 205, 205, 205, 205, 205, 205, 198])]),
  (100, [(.aload_n 0, 1, []), (.lload_n 2, 1, []), (.l2i, 1, []), (.invokevirtual 53, 3, [225, 1, 1822, 0, 3, 9]), (.goto 106, 3, [212])]),
  (109, [(.aload_n 0, 1, []), (.aload_n 0, 1, []), (.aload_n 0, 1, []), (.getfield 83, 3, [9, 7, 836, 0]), (.lload_n 2, 1, []), (.l2i, 1, []), (.iadd, 1, []), (.invokevirtual 98, 3, [231, 1, 1848, 0, 4, 9]), (.invokevirtual 53, 3, [225, 1, 1822, 0, 3, 9]), (.goto 88, 3, [212])]),
  (127, [(.aload_n 0, 1, []), (.lload_n 2, 1, []), (.l2i, 1, []), (.aload_n 0, 1, []), (.getfield 62, 3, [9, 8, 837, 0]), (.invokevirtual 57, 3, [226, 2, 1826, 0, 3, 9]), (.goto 75, 3, [212])]),
  (140, [(.aload_n 0, 1, []), (.iconst 0, 1, []), (.invokevirtual 53, 3, [225, 1, 1822, 0, 3, 9]), (.goto 67, 3, [212])]),
  (148, [(.aload_n 0, 1, []), (.invokevirtual 102, 3, [232, 0, 1852, 0, 3, 9]), (.goto 60, 3, [212])]),
  (155, [(.aload_n 0, 1, []), (.invokevirtual 79, 3, [229, 0, 1840, 0, 4, 9]), (.istore 4, 2, []), (.aload_n 0, 1, []), (.invokevirtual 79, 3, [229, 0, 1840, 0, 4, 9]), (.istore 5, 2, []), (.aload_n 0, 1, []), (.iload 4, 2, []), (.invokevirtual 53, 3, [225, 1, 1822, 0, 3, 9]), (.aload_n 0, 1, []), (.iload 5, 2, []), (.aload_n 0, 1, []), (.getfield 62, 3, [9, 8, 837, 0]), (.invokevirtual 57, 3, [226, 2, 1826, 0, 3, 9]), (.goto 29, 3, [212])]),
  (186, [(.aload_n 0, 1, []), (.aload_n 0, 1, []), (.invokevirtual 79, 3, [229, 0, 1840, 0, 4, 9]), (.ineg, 1, []), (.invokevirtual 53, 3, [225, 1, 1822, 0, 3, 9]), (.goto 17, 3, [212])]),
  (198, [(.aload_n 0, 1, []), (.invokevirtual 105, 3, [233, 0, 1856, 0, 3, 9]), (.goto 10, 3, [212])]),
  (205, [(.aload_n 0, 1, []), (.iload_n 1, 1, []), (.lload_n 2, 1, []), (.l2i, 1, []), (.invokevirtual 108, 3, [234, 2, 1860, 0, 3, 9])]),
  (212, [(.return_, 1, [])])]
set_option maxRecDepth 100000 in
theorem ok_Runner_step : fk_okM 227 B_Runner_step = true := by decide +kernel
abbrev C_Runner_step : fkC := []
set_option maxRecDepth 100000 in
set_option maxHeartbeats 4000000 in
theorem S_Runner_step {d : Nat} {a0 : Int32} {a1 : Int64} {σ : fkS} {Q : Option Value → fkS → Prop} 
  (h : ((a0 < (32 : Int32) →
    (((a0.toInt < 0 ∨ 17 < a0.toInt) →
      (Dv d 234 [.ref 98, .int a0, .int a1.toInt32] σ (fun σ1 =>
      Q none (sW σ1 σ)))) ∧
     (a0.toInt = 0 →
      (Dv d 225 [.ref 98, .int a1.toInt32] σ (fun σ2 =>
      Q none (sW σ2 σ)))) ∧
     (a0.toInt = 1 →
      (Di d 231 [.ref 98, .int ((σ.1 98 7) + a1.toInt32)] σ (fun x4 σ3 =>
      (Dv d 225 [.ref 98, .int x4] (sW σ3 σ) (fun σ5 =>
      Q none (sW σ5 σ)))))) ∧
     (a0.toInt = 2 →
      (Dv d 226 [.ref 98, .int a1.toInt32, .int (σ.1 98 8)] σ (fun σ6 =>
      Q none (sW σ6 σ)))) ∧
     (a0.toInt = 3 →
      (Dv d 225 [.ref 98, .int a1.toInt32] σ (fun σ7 =>
      Q none (sW σ7 σ)))) ∧
     (a0.toInt = 4 →
      (Dv d 225 [.ref 98, .int (0 : Int32)] σ (fun σ8 =>
      Q none (sW σ8 σ)))) ∧
     (a0.toInt = 5 →
      (Dv d 232 [.ref 98] σ (fun σ9 =>
      Q none (sW σ9 σ)))) ∧
     (a0.toInt = 6 →
      (Di d 229 [.ref 98] σ (fun x11 σ10 =>
      (Di d 229 [.ref 98] (sW σ10 σ) (fun x13 σ12 =>
      (Dv d 225 [.ref 98, .int x11] (sW σ12 σ) (fun σ14 =>
      (Dv d 226 [.ref 98, .int x13, .int ((sW σ14 σ).1 98 8)] (sW σ14 σ) (fun σ15 =>
      Q none (sW σ15 σ)))))))))) ∧
     (a0.toInt = 7 →
      (Di d 229 [.ref 98] σ (fun x17 σ16 =>
      (Dv d 225 [.ref 98, .int (-x17)] (sW σ16 σ) (fun σ18 =>
      Q none (sW σ18 σ)))))) ∧
     (a0.toInt = 8 →
      (Dv d 234 [.ref 98, .int a0, .int a1.toInt32] σ (fun σ19 =>
      Q none (sW σ19 σ)))) ∧
     (a0.toInt = 9 →
      (Dv d 234 [.ref 98, .int a0, .int a1.toInt32] σ (fun σ20 =>
      Q none (sW σ20 σ)))) ∧
     (a0.toInt = 10 →
      (Dv d 234 [.ref 98, .int a0, .int a1.toInt32] σ (fun σ21 =>
      Q none (sW σ21 σ)))) ∧
     (a0.toInt = 11 →
      (Dv d 234 [.ref 98, .int a0, .int a1.toInt32] σ (fun σ22 =>
      Q none (sW σ22 σ)))) ∧
     (a0.toInt = 12 →
      (Dv d 234 [.ref 98, .int a0, .int a1.toInt32] σ (fun σ23 =>
      Q none (sW σ23 σ)))) ∧
     (a0.toInt = 13 →
      (Dv d 234 [.ref 98, .int a0, .int a1.toInt32] σ (fun σ24 =>
      Q none (sW σ24 σ)))) ∧
     (a0.toInt = 14 →
      (Dv d 234 [.ref 98, .int a0, .int a1.toInt32] σ (fun σ25 =>
      Q none (sW σ25 σ)))) ∧
     (a0.toInt = 15 →
      (Dv d 234 [.ref 98, .int a0, .int a1.toInt32] σ (fun σ26 =>
      Q none (sW σ26 σ)))) ∧
     (a0.toInt = 16 →
      (Dv d 234 [.ref 98, .int a0, .int a1.toInt32] σ (fun σ27 =>
      Q none (sW σ27 σ)))) ∧
     (a0.toInt = 17 →
      (Dv d 233 [.ref 98] σ (fun σ28 =>
      Q none (sW σ28 σ)))) ∧ True)) ∧
   (¬ a0 < (32 : Int32) →
    (Dv d 228 [.ref 98, .int a0] σ (fun σ29 =>
    Q none (sW σ29 σ)))))) :
  Cl (d + 1) 227 [.ref 98, .int a0, .long a1] σ Q := by
  exact Cl.run B_Runner_step C_Runner_step 16 fk_q227 ok_Runner_step rfl h
def B_Runner_operate : fkB := [(0, [(.aload_n 0, 1, []), (.invokevirtual 79, 3, [229, 0, 1840, 0, 4, 9]), (.istore_n 2, 1, []), (.aload_n 0, 1, []), (.invokevirtual 79, 3, [229, 0, 1840, 0, 4, 9]), (.istore_n 3, 1, []), (.iload_n 1, 1, []), (.lookupswitch 113 #[(42, 69), (43, 49), (45, 59), (60, 79), (128, 96)], 49, [124, 80, 60, 70, 90, 107])]),
  (60, [(.aload_n 0, 1, []), (.iload_n 3, 1, []), (.iload_n 2, 1, []), (.iadd, 1, []), (.invokevirtual 53, 3, [225, 1, 1822, 0, 3, 9]), (.goto 64, 3, [131])]),
  (70, [(.aload_n 0, 1, []), (.iload_n 3, 1, []), (.iload_n 2, 1, []), (.isub, 1, []), (.invokevirtual 53, 3, [225, 1, 1822, 0, 3, 9]), (.goto 54, 3, [131])]),
  (80, [(.aload_n 0, 1, []), (.iload_n 3, 1, []), (.iload_n 2, 1, []), (.imul, 1, []), (.invokevirtual 53, 3, [225, 1, 1822, 0, 3, 9]), (.goto 44, 3, [131])]),
  (90, [(.aload_n 0, 1, []), (.iload_n 3, 1, []), (.iload_n 2, 1, []), (.if_icmp .ge 7, 3, [100])]),
  (96, [(.iconst 1, 1, []), (.goto 4, 3, [101])]),
  (100, [(.iconst 0, 1, [])]),
  (101, [(.invokevirtual 53, 3, [225, 1, 1822, 0, 3, 9]), (.goto 27, 3, [131])]),
  (107, [(.aload_n 0, 1, []), (.iload_n 3, 1, []), (.iload_n 2, 1, []), (.if_icmp .ne 7, 3, [117])]),
  (113, [(.iconst 1, 1, []), (.goto 4, 3, [118])]),
  (117, [(.iconst 0, 1, [])]),
  (118, [(.invokevirtual 53, 3, [225, 1, 1822, 0, 3, 9]), (.goto 10, 3, [131])]),
  (124, [(.aload_n 0, 1, []), (.iload_n 1, 1, []), (.iload_n 3, 1, []), (.iload_n 2, 1, []), (.invokevirtual 111, 3, [230, 3, 1844, 0, 3, 9])]),
  (131, [(.return_, 1, [])])]
set_option maxRecDepth 100000 in
theorem ok_Runner_operate : fk_okM 228 B_Runner_operate = true := by decide +kernel
abbrev C_Runner_operate : fkC := []
set_option maxRecDepth 100000 in
set_option maxHeartbeats 4000000 in
theorem S_Runner_operate {d : Nat} {a0 : Int32} {σ : fkS} {Q : Option Value → fkS → Prop} 
  (h : (Di d 229 [.ref 98] σ (fun x2 σ1 =>
  (Di d 229 [.ref 98] (sW σ1 σ) (fun x4 σ3 =>
  ((a0.toInt = 42 →
    (Dv d 225 [.ref 98, .int (x4 * x2)] (sW σ3 σ) (fun σ5 =>
    Q none (sW σ5 σ)))) ∧
   (¬ a0.toInt = 42 →
   ((a0.toInt = 43 →
    (Dv d 225 [.ref 98, .int (x4 + x2)] (sW σ3 σ) (fun σ6 =>
    Q none (sW σ6 σ)))) ∧
   (¬ a0.toInt = 43 →
   ((a0.toInt = 45 →
    (Dv d 225 [.ref 98, .int (x4 - x2)] (sW σ3 σ) (fun σ7 =>
    Q none (sW σ7 σ)))) ∧
   (¬ a0.toInt = 45 →
   ((a0.toInt = 60 →
    ((x2 ≤ x4 →
      (Dv d 225 [.ref 98, .int (0 : Int32)] (sW σ3 σ) (fun σ8 =>
      Q none (sW σ8 σ)))) ∧
     (¬ x2 ≤ x4 →
      (Dv d 225 [.ref 98, .int (1 : Int32)] (sW σ3 σ) (fun σ9 =>
      Q none (sW σ9 σ)))))) ∧
   (¬ a0.toInt = 60 →
   ((a0.toInt = 128 →
    ((¬ x4 = x2 →
      (Dv d 225 [.ref 98, .int (0 : Int32)] (sW σ3 σ) (fun σ10 =>
      Q none (sW σ10 σ)))) ∧
     (x4 = x2 →
      (Dv d 225 [.ref 98, .int (1 : Int32)] (sW σ3 σ) (fun σ11 =>
      Q none (sW σ11 σ)))))) ∧
   (¬ a0.toInt = 128 →
   (Dv d 230 [.ref 98, .int a0, .int x4, .int x2] (sW σ3 σ) (fun σ12 =>
    Q none (sW σ12 σ)))))))))))))))))) :
  Cl (d + 1) 228 [.ref 98, .int a0] σ Q := by
  exact Cl.run B_Runner_operate C_Runner_operate 17 fk_q228 ok_Runner_operate rfl h
def B_Runner_pop : fkB := [(0, [(.aload_n 0, 1, []), (.getfield 42, 3, [9, 4, 833, 0]), (.ifCond .gt 5, 3, [9])]),
  (7, [(.iconst 0, 1, []), (.ireturn, 1, [])]),
  (9, [(.aload_n 0, 1, []), (.dup, 1, []), (.getfield 42, 3, [9, 4, 833, 0]), (.iconst 1, 1, []), (.isub, 1, []), (.putfield 42, 3, [9, 4, 833, 0]), (.aload_n 0, 1, []), (.getfield 20, 3, [9, 3, 832, 0]), (.aload_n 0, 1, []), (.getfield 42, 3, [9, 4, 833, 0]), (.iaload, 1, []), (.ireturn, 1, [])])]
set_option maxRecDepth 100000 in
theorem ok_Runner_pop : fk_okM 229 B_Runner_pop = true := by decide +kernel
abbrev C_Runner_pop : fkC := []
set_option maxRecDepth 100000 in
set_option maxHeartbeats 4000000 in
theorem S_Runner_pop {d : Nat}  {σ : fkS} {Q : Option Value → fkS → Prop} 
  (h : ((0 < (σ.1 98 4) →
    (vp_in ((σ.1 98 4) - (1 : Int32)) 12000 ∧
    Q (some (.int (σ.1 101 (((σ.1 98 4) - (1 : Int32)).toNatClampNeg)))) (sI σ 98 4 ((σ.1 98 4) - (1 : Int32))))) ∧
   (¬ 0 < (σ.1 98 4) →
    Q (some (.int (0 : Int32))) σ))) :
  Cl d 229 [.ref 98] σ Q := by
  exact Cl.run B_Runner_pop C_Runner_pop 6 fk_q229 ok_Runner_pop rfl h
def B_Runner_divide : fkB := [(0, [(.iload_n 3, 1, []), (.ifCond .ne 11, 3, [12])]),
  (4, [(.aload_n 0, 1, []), (.iconst 1, 1, []), (.putfield 36, 3, [9, 12, 844, 0]), (.goto 46, 3, [55])]),
  (12, [(.iload_n 3, 1, []), (.iconst (-1), 1, []), (.if_icmp .ne 22, 3, [36])]),
  (17, [(.aload_n 0, 1, []), (.iload_n 1, 1, []), (.bipush 47, 2, []), (.if_icmp .ne 8, 3, [29])]),
  (24, [(.iload_n 2, 1, []), (.ineg, 1, []), (.goto 4, 3, [30])]),
  (29, [(.iconst 0, 1, [])]),
  (30, [(.invokevirtual 53, 3, [225, 1, 1822, 0, 3, 9]), (.goto 22, 3, [55])]),
  (36, [(.aload_n 0, 1, []), (.iload_n 1, 1, []), (.bipush 47, 2, []), (.if_icmp .ne 9, 3, [49])]),
  (43, [(.iload_n 2, 1, []), (.iload_n 3, 1, []), (.idiv, 1, []), (.goto 6, 3, [52])]),
  (49, [(.iload_n 2, 1, []), (.iload_n 3, 1, []), (.irem, 1, [])]),
  (52, [(.invokevirtual 53, 3, [225, 1, 1822, 0, 3, 9])]),
  (55, [(.return_, 1, [])])]
set_option maxRecDepth 100000 in
theorem ok_Runner_divide : fk_okM 230 B_Runner_divide = true := by decide +kernel
abbrev C_Runner_divide : fkC := []
set_option maxRecDepth 100000 in
set_option maxHeartbeats 4000000 in
theorem S_Runner_divide {d : Nat} {a0 : Int32} {a1 : Int32} {a2 : Int32} {σ : fkS} {Q : Option Value → fkS → Prop} 
  (h : ((¬ a2 = 0 →
    ((¬ a2 = (-1 : Int32) →
      ((¬ a0 = (47 : Int32) →
        (¬ a2 = 0 ∧
        (Dv d 225 [.ref 98, .int (a1 - a1 / a2 * a2)] σ (fun σ1 =>
        Q none (sW σ1 σ))))) ∧
       (a0 = (47 : Int32) →
        (¬ a2 = 0 ∧
        (Dv d 225 [.ref 98, .int (a1 / a2)] σ (fun σ2 =>
        Q none (sW σ2 σ))))))) ∧
     (a2 = (-1 : Int32) →
      ((¬ a0 = (47 : Int32) →
        (Dv d 225 [.ref 98, .int (0 : Int32)] σ (fun σ3 =>
        Q none (sW σ3 σ)))) ∧
       (a0 = (47 : Int32) →
        (Dv d 225 [.ref 98, .int (-a1)] σ (fun σ4 =>
        Q none (sW σ4 σ)))))))) ∧
   (a2 = 0 →
    Q none (sI σ 98 12 (1 : Int32))))) :
  Cl (d + 1) 230 [.ref 98, .int a0, .int a1, .int a2] σ Q := by
  exact Cl.run B_Runner_divide C_Runner_divide 15 fk_q230 ok_Runner_divide rfl h
def B_Runner_standing : fkB := [(0, [(.iload_n 1, 1, []), (.ifCond .lt 20, 3, [21])]),
  (4, [(.iload_n 1, 1, []), (.aload_n 0, 1, []), (.getfield 42, 3, [9, 4, 833, 0]), (.if_icmp .ge 12, 3, [21])]),
  (12, [(.aload_n 0, 1, []), (.getfield 20, 3, [9, 3, 832, 0]), (.iload_n 1, 1, []), (.iaload, 1, []), (.goto 4, 3, [22])]),
  (21, [(.iconst 0, 1, [])]),
  (22, [(.ireturn, 1, [])])]
set_option maxRecDepth 100000 in
theorem ok_Runner_standing : fk_okM 231 B_Runner_standing = true := by decide +kernel
abbrev C_Runner_standing : fkC := []
set_option maxRecDepth 100000 in
set_option maxHeartbeats 4000000 in
theorem S_Runner_standing {d : Nat} {a0 : Int32} {σ : fkS} {Q : Option Value → fkS → Prop} 
  (h : ((a0 < 0 →
    Q (some (.int (0 : Int32))) σ) ∧
   (¬ a0 < 0 →
    (((σ.1 98 4) ≤ a0 →
      Q (some (.int (0 : Int32))) σ) ∧
     (¬ (σ.1 98 4) ≤ a0 →
      (vp_in a0 12000 ∧
      Q (some (.int (σ.1 101 a0.toNatClampNeg))) σ)))))) :
  Cl d 231 [.ref 98, .int a0] σ Q := by
  exact Cl.run B_Runner_standing C_Runner_standing 8 fk_q231 ok_Runner_standing rfl h
def B_Runner_cons : fkB := [(0, [(.aload_n 0, 1, []), (.invokevirtual 79, 3, [229, 0, 1840, 0, 4, 9]), (.istore_n 1, 1, []), (.aload_n 0, 1, []), (.invokevirtual 79, 3, [229, 0, 1840, 0, 4, 9]), (.istore_n 2, 1, []), (.aload_n 0, 1, []), (.getfield 26, 3, [9, 9, 838, 0]), (.sipush 500, 3, []), (.if_icmp .lt 9, 3, [26])]),
  (20, [(.aload_n 0, 1, []), (.iconst 2, 1, []), (.putfield 36, 3, [9, 12, 844, 0]), (.return_, 1, [])]),
  (26, [(.aload_n 0, 1, []), (.dup, 1, []), (.getfield 26, 3, [9, 9, 838, 0]), (.iconst 1, 1, []), (.iadd, 1, []), (.putfield 26, 3, [9, 9, 838, 0]), (.aload_n 0, 1, []), (.getfield 13, 3, [9, 1, 830, 0]), (.aload_n 0, 1, []), (.getfield 26, 3, [9, 9, 838, 0]), (.iload_n 2, 1, []), (.iastore, 1, []), (.aload_n 0, 1, []), (.getfield 17, 3, [9, 2, 831, 0]), (.aload_n 0, 1, []), (.getfield 26, 3, [9, 9, 838, 0]), (.iload_n 1, 1, []), (.iastore, 1, []), (.aload_n 0, 1, []), (.aload_n 0, 1, []), (.getfield 26, 3, [9, 9, 838, 0]), (.invokevirtual 53, 3, [225, 1, 1822, 0, 3, 9]), (.return_, 1, [])])]
set_option maxRecDepth 100000 in
theorem ok_Runner_cons : fk_okM 232 B_Runner_cons = true := by decide +kernel
abbrev C_Runner_cons : fkC := []
set_option maxRecDepth 100000 in
set_option maxHeartbeats 4000000 in
theorem S_Runner_cons {d : Nat}  {σ : fkS} {Q : Option Value → fkS → Prop} 
  (h : (Di d 229 [.ref 98] σ (fun x2 σ1 =>
  (Di d 229 [.ref 98] (sW σ1 σ) (fun x4 σ3 =>
  ((((sW σ3 σ).1 98 9) < (500 : Int32) →
    (vp_in (((sW σ3 σ).1 98 9) + (1 : Int32)) 501 ∧
    (vp_in (((sW σ3 σ).1 98 9) + (1 : Int32)) 501 ∧
    (Dv d 225 [.ref 98, .int (((sW σ3 σ).1 98 9) + (1 : Int32))] (sI (sI (sI (sW σ3 σ) 98 9 (((sW σ3 σ).1 98 9) + (1 : Int32))) 99 ((((sW σ3 σ).1 98 9) + (1 : Int32)).toNatClampNeg) x4) 100 ((((sW σ3 σ).1 98 9) + (1 : Int32)).toNatClampNeg) x2) (fun σ5 =>
    Q none (sW σ5 σ)))))) ∧
   (¬ ((sW σ3 σ).1 98 9) < (500 : Int32) →
    Q none (sI (sW σ3 σ) 98 12 (2 : Int32))))))))) :
  Cl (d + 1) 232 [.ref 98] σ Q := by
  exact Cl.run B_Runner_cons C_Runner_cons 6 fk_q232 ok_Runner_cons rfl h
def B_Runner_leave : fkB := [(0, [(.aload_n 0, 1, []), (.invokevirtual 79, 3, [229, 0, 1840, 0, 4, 9]), (.istore_n 1, 1, []), (.aload_n 0, 1, []), (.dup, 1, []), (.getfield 45, 3, [9, 6, 835, 0]), (.iconst 1, 1, []), (.isub, 1, []), (.putfield 45, 3, [9, 6, 835, 0]), (.aload_n 0, 1, []), (.aload_n 0, 1, []), (.getfield 23, 3, [9, 5, 834, 0]), (.iconst 2, 1, []), (.aload_n 0, 1, []), (.getfield 45, 3, [9, 6, 835, 0]), (.imul, 1, []), (.iaload, 1, []), (.putfield 42, 3, [9, 4, 833, 0]), (.aload_n 0, 1, []), (.aload_n 0, 1, []), (.getfield 23, 3, [9, 5, 834, 0]), (.iconst 2, 1, []), (.aload_n 0, 1, []), (.getfield 45, 3, [9, 6, 835, 0]), (.imul, 1, []), (.iconst 1, 1, []), (.iadd, 1, []), (.iaload, 1, []), (.putfield 62, 3, [9, 8, 837, 0]), (.aload_n 0, 1, []), (.aload_n 0, 1, []), (.getfield 45, 3, [9, 6, 835, 0]), (.ifCond .le 19, 3, [71])]),
  (55, [(.aload_n 0, 1, []), (.getfield 23, 3, [9, 5, 834, 0]), (.iconst 2, 1, []), (.aload_n 0, 1, []), (.getfield 45, 3, [9, 6, 835, 0]), (.imul, 1, []), (.iconst 2, 1, []), (.isub, 1, []), (.iaload, 1, []), (.goto 4, 3, [72])]),
  (71, [(.iconst 0, 1, [])]),
  (72, [(.putfield 83, 3, [9, 7, 836, 0]), (.aload_n 0, 1, []), (.iload_n 1, 1, []), (.invokevirtual 53, 3, [225, 1, 1822, 0, 3, 9]), (.return_, 1, [])])]
set_option maxRecDepth 100000 in
theorem ok_Runner_leave : fk_okM 233 B_Runner_leave = true := by decide +kernel
abbrev C_Runner_leave : fkC := []
set_option maxRecDepth 100000 in
set_option maxHeartbeats 4000000 in
theorem S_Runner_leave {d : Nat}  {σ : fkS} {Q : Option Value → fkS → Prop} 
  (h : (Di d 229 [.ref 98] σ (fun x2 σ1 =>
  (vp_in ((2 : Int32) * (((sW σ1 σ).1 98 6) - (1 : Int32))) 120 ∧
  (vp_in (((2 : Int32) * (((sW σ1 σ).1 98 6) - (1 : Int32))) + (1 : Int32)) 120 ∧
  (((((sW σ1 σ).1 98 6) - (1 : Int32)) ≤ 0 →
    (Dv d 225 [.ref 98, .int x2] (sI (sI (sI (sI (sW σ1 σ) 98 6 (((sW σ1 σ).1 98 6) - (1 : Int32))) 98 4 ((sW σ1 σ).1 102 (((2 : Int32) * (((sW σ1 σ).1 98 6) - (1 : Int32))).toNatClampNeg))) 98 8 ((sW σ1 σ).1 102 ((((2 : Int32) * (((sW σ1 σ).1 98 6) - (1 : Int32))) + (1 : Int32)).toNatClampNeg))) 98 7 (0 : Int32)) (fun σ3 =>
    Q none (sW σ3 σ)))) ∧
   (¬ (((sW σ1 σ).1 98 6) - (1 : Int32)) ≤ 0 →
    (vp_in (((2 : Int32) * (((sW σ1 σ).1 98 6) - (1 : Int32))) - (2 : Int32)) 120 ∧
    (Dv d 225 [.ref 98, .int x2] (sI (sI (sI (sI (sW σ1 σ) 98 6 (((sW σ1 σ).1 98 6) - (1 : Int32))) 98 4 ((sW σ1 σ).1 102 (((2 : Int32) * (((sW σ1 σ).1 98 6) - (1 : Int32))).toNatClampNeg))) 98 8 ((sW σ1 σ).1 102 ((((2 : Int32) * (((sW σ1 σ).1 98 6) - (1 : Int32))) + (1 : Int32)).toNatClampNeg))) 98 7 ((sW σ1 σ).1 102 ((((2 : Int32) * (((sW σ1 σ).1 98 6) - (1 : Int32))) - (2 : Int32)).toNatClampNeg))) (fun σ4 =>
    Q none (sW σ4 σ))))))))))) :
  Cl (d + 1) 233 [.ref 98] σ Q := by
  exact Cl.run B_Runner_leave C_Runner_leave 7 fk_q233 ok_Runner_leave rfl h
def B_Runner_goOn : fkB := [(0, [(.iload_n 1, 1, []), (.tableswitch 143 8 13 #[39, 61, 69, 143, 143, 114], 39, [144, 40, 62, 70, 144, 144, 115])]),
  (40, [(.aload_n 0, 1, []), (.aload_n 0, 1, []), (.invokevirtual 79, 3, [229, 0, 1840, 0, 4, 9]), (.ifCond .ne 7, 3, [52])]),
  (48, [(.iload_n 2, 1, []), (.goto 7, 3, [56])]),
  (52, [(.aload_n 0, 1, []), (.getfield 62, 3, [9, 8, 837, 0])]),
  (56, [(.putfield 62, 3, [9, 8, 837, 0]), (.goto 85, 3, [144])]),
  (62, [(.aload_n 0, 1, []), (.iload_n 2, 1, []), (.putfield 62, 3, [9, 8, 837, 0]), (.goto 77, 3, [144])]),
  (70, [(.aload_n 0, 1, []), (.invokevirtual 79, 3, [229, 0, 1840, 0, 4, 9]), (.istore_n 3, 1, []), (.iload_n 3, 1, []), (.ifCond .le 68, 3, [144])]),
  (79, [(.iload_n 3, 1, []), (.aload_n 0, 1, []), (.getfield 26, 3, [9, 9, 838, 0]), (.if_icmp .gt 60, 3, [144])]),
  (87, [(.aload_n 0, 1, []), (.aload_n 0, 1, []), (.getfield 13, 3, [9, 1, 830, 0]), (.iload_n 3, 1, []), (.iaload, 1, []), (.invokevirtual 53, 3, [225, 1, 1822, 0, 3, 9]), (.aload_n 0, 1, []), (.aload_n 0, 1, []), (.getfield 17, 3, [9, 2, 831, 0]), (.iload_n 3, 1, []), (.iaload, 1, []), (.invokevirtual 53, 3, [225, 1, 1822, 0, 3, 9]), (.aload_n 0, 1, []), (.iload_n 2, 1, []), (.putfield 62, 3, [9, 8, 837, 0]), (.goto 32, 3, [144])]),
  (115, [(.aload_n 0, 1, []), (.invokevirtual 79, 3, [229, 0, 1840, 0, 4, 9]), (.istore 4, 2, []), (.aload_n 0, 1, []), (.iconst 0, 1, []), (.aload_n 0, 1, []), (.getfield 42, 3, [9, 4, 833, 0]), (.iload_n 2, 1, []), (.isub, 1, []), (.invokestatic 86, 3, [1001, 0, 1830]), (.putfield 42, 3, [9, 4, 833, 0]), (.aload_n 0, 1, []), (.iload 4, 2, []), (.invokevirtual 53, 3, [225, 1, 1822, 0, 3, 9]), (.goto 3, 3, [144])]),
  (144, [(.return_, 1, [])])]
set_option maxRecDepth 100000 in
theorem ok_Runner_goOn : fk_okM 234 B_Runner_goOn = true := by decide +kernel
abbrev C_Runner_goOn : fkC := []
set_option maxRecDepth 100000 in
set_option maxHeartbeats 4000000 in
theorem S_Runner_goOn {d : Nat} {a0 : Int32} {a1 : Int32} {σ : fkS} {Q : Option Value → fkS → Prop} 
  (h : (((a0.toInt < 8 ∨ 13 < a0.toInt) →
    Q none σ) ∧
   (a0.toInt = 8 →
    (Di d 229 [.ref 98] σ (fun x2 σ1 =>
    ((¬ x2 = 0 →
      Q none (sI (sW σ1 σ) 98 8 ((sW σ1 σ).1 98 8))) ∧
     (x2 = 0 →
      Q none (sI (sW σ1 σ) 98 8 a1)))))) ∧
   (a0.toInt = 9 →
    Q none (sI σ 98 8 a1)) ∧
   (a0.toInt = 10 →
    (Di d 229 [.ref 98] σ (fun x4 σ3 =>
    ((x4 ≤ 0 →
      Q none (sW σ3 σ)) ∧
     (¬ x4 ≤ 0 →
      ((((sW σ3 σ).1 98 9) < x4 →
        Q none (sW σ3 σ)) ∧
       (¬ ((sW σ3 σ).1 98 9) < x4 →
        (vp_in x4 501 ∧
        (Dv d 225 [.ref 98, .int ((sW σ3 σ).1 99 x4.toNatClampNeg)] (sW σ3 σ) (fun σ5 =>
        (vp_in x4 501 ∧
        (Dv d 225 [.ref 98, .int ((sW σ5 σ).1 100 x4.toNatClampNeg)] (sW σ5 σ) (fun σ6 =>
        Q none (sI (sW σ6 σ) 98 8 a1)))))))))))))) ∧
   (a0.toInt = 11 →
    Q none σ) ∧
   (a0.toInt = 12 →
    Q none σ) ∧
   (a0.toInt = 13 →
    (Di d 229 [.ref 98] σ (fun x8 σ7 =>
    (Dv d 225 [.ref 98, .int x8] (sI (sW σ7 σ) 98 4 (if (0 : Int32) < (((sW σ7 σ).1 98 4) - a1) then (((sW σ7 σ).1 98 4) - a1) else (0 : Int32))) (fun σ9 =>
    Q none (sW σ9 σ)))))) ∧ True)) :
  Cl (d + 1) 234 [.ref 98, .int a0, .int a1] σ Q := by
  exact Cl.run B_Runner_goOn C_Runner_goOn 14 fk_q234 ok_Runner_goOn rfl h
