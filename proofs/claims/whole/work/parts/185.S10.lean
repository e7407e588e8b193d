/-! THE WALKS of the methods as predicates, by program (wip/whole/gen/gen_S.py). Cells: wip/whole/gen/cells.py prints them. -/
-- not here: 
def B_Parser_word : fkB := [(0, [(.aload_n 0, 1, []), (.getfield 80, 3, [7, 3, 749, 0]), (.aload_n 0, 1, []), (.getfield 41, 3, [7, 2, 748, 0]), (.if_icmp .ge 90, 3, [98])]),
  (11, [(.aload_n 0, 1, []), (.aload_n 0, 1, []), (.getfield 80, 3, [7, 3, 749, 0]), (.invokevirtual 86, 3, [147, 1, 1503, 0, 4, 7]), (.invokestatic 100, 3, [149, 1, 1511, 0, 4]), (.ifCond .ne 17, 3, [39])]),
  (25, [(.aload_n 0, 1, []), (.aload_n 0, 1, []), (.getfield 80, 3, [7, 3, 749, 0]), (.invokevirtual 86, 3, [147, 1, 1503, 0, 4, 7]), (.invokestatic 107, 3, [151, 1, 1518, 0, 4]), (.ifCond .eq 62, 3, [98])]),
  (39, [(.aload_n 0, 1, []), (.aload_n 0, 1, []), (.getfield 80, 3, [7, 3, 749, 0]), (.invokevirtual 86, 3, [147, 1, 1503, 0, 4, 7]), (.istore_n 1, 1, []), (.aload_n 0, 1, []), (.aload_n 0, 1, []), (.getfield 96, 3, [7, 11, 757, 0]), (.ldc2_w 116, 3, [37, 1521]), (.lmul, 1, []), (.iload_n 1, 1, []), (.invokestatic 107, 3, [151, 1, 1518, 0, 4]), (.ifCond .eq 12, 3, [73])]),
  (64, [(.iload_n 1, 1, []), (.bipush 48, 2, []), (.isub, 1, []), (.iconst 1, 1, []), (.iadd, 1, []), (.goto 10, 3, [80])]),
  (73, [(.iload_n 1, 1, []), (.bipush 97, 2, []), (.isub, 1, []), (.bipush 11, 2, []), (.iadd, 1, [])]),
  (80, [(.i2l, 1, []), (.ladd, 1, []), (.putfield 96, 3, [7, 11, 757, 0]), (.aload_n 0, 1, []), (.dup, 1, []), (.getfield 80, 3, [7, 3, 749, 0]), (.iconst 1, 1, []), (.iadd, 1, []), (.putfield 80, 3, [7, 3, 749, 0]), (.goto (-95), 3, [0])]),
  (98, [(.aload_n 0, 1, []), (.aload_n 0, 1, []), (.getfield 80, 3, [7, 3, 749, 0]), (.aload_n 0, 1, []), (.getfield 74, 3, [7, 10, 756, 0]), (.isub, 1, []), (.bipush 10, 2, []), (.if_icmp .le 7, 3, [117])]),
  (113, [(.iconst 3, 1, []), (.goto 4, 3, [118])]),
  (117, [(.iconst 1, 1, [])]),
  (118, [(.putfield 64, 3, [7, 9, 755, 0]), (.iconst 0, 1, []), (.istore_n 1, 1, [])]),
  (123, [(.iload_n 1, 1, []), (.ldc 118, 2, [0, 0, 0, 0, 0, 0, 1]), (.invokevirtual 120, 3, [152, 0, 1523, 0, 4, 0, 8]), (.iconst 5, 1, []), (.idiv, 1, []), (.if_icmp .ge 24, 3, [155])]),
  (134, [(.aload_n 0, 1, []), (.iload_n 1, 1, []), (.invokevirtual 126, 3, [154, 1, 1533, 0, 4, 7]), (.ifCond .eq 10, 3, [149])]),
  (142, [(.aload_n 0, 1, []), (.iconst 4, 1, []), (.iload_n 1, 1, []), (.iadd, 1, []), (.putfield 64, 3, [7, 9, 755, 0])]),
  (149, [(.iinc 1 1, 3, []), (.goto (-29), 3, [123])]),
  (155, [(.return_, 1, [])])]
set_option maxRecDepth 100000 in
theorem ok_Parser_word : fk_okM 150 B_Parser_word = true := by decide +kernel
abbrev C_Parser_word : fkC := [(0, [true, false]), (39, [true, false]), (98, [true, false]), (123, [true, true])]
set_option maxRecDepth 100000 in
set_option maxHeartbeats 4000000 in
theorem S_Parser_word {d : Nat}  {σ : fkS} {Q : Option Value → fkS → Prop} 
  (h : (((σ.1 88 2) ≤ (σ.1 88 3) →
    Wq 150 (d + 1) 98 [some (.ref 88), none] [] σ Q) ∧
   (¬ (σ.1 88 2) ≤ (σ.1 88 3) →
    (Di d 147 [.ref 88, .int (σ.1 88 3)] σ (fun x2 σ1 =>
    (Di d 149 [.int x2] (sW σ1 σ) (fun x4 σ3 =>
    ((¬ x4 = 0 →
      Wq 150 (d + 1) 39 [some (.ref 88), none] [] (sW σ3 σ) Q) ∧
     (x4 = 0 →
      (Di d 147 [.ref 88, .int ((sW σ3 σ).1 88 3)] (sW σ3 σ) (fun x6 σ5 =>
      (Di d 151 [.int x6] (sW σ5 σ) (fun x8 σ7 =>
      ((x8 = 0 →
        Wq 150 (d + 1) 98 [some (.ref 88), none] [] (sW σ7 σ) Q) ∧
       (¬ x8 = 0 →
        Wq 150 (d + 1) 39 [some (.ref 88), none] [] (sW σ7 σ) Q))))))))))))))) :
  Cl (d + 1) 150 [.ref 88] σ Q := by
  exact Cl.run B_Parser_word C_Parser_word 19 fk_q150 ok_Parser_word rfl h
set_option maxRecDepth 100000 in
set_option maxHeartbeats 4000000 in
theorem S_Parser_word_39 {d : Nat}  {σ : fkS} {Q : Option Value → fkS → Prop} 
  (h : (Di d 147 [.ref 88, .int (σ.1 88 3)] σ (fun x2 σ1 =>
  (Di d 151 [.int x2] (sW σ1 σ) (fun x4 σ3 =>
  ((x4 = 0 →
    Wq 150 (d + 1) 0 [some (.ref 88), none] [] (sI (sL (sW σ3 σ) 88 11 ((((sW σ1 σ).2.1 88 11) * (37 : Int64)) + (((x2 - (97 : Int32)) + (11 : Int32)).toInt64))) 88 3 (((sW σ3 σ).1 88 3) + (1 : Int32))) Q) ∧
   (¬ x4 = 0 →
    Wq 150 (d + 1) 0 [some (.ref 88), none] [] (sI (sL (sW σ3 σ) 88 11 ((((sW σ1 σ).2.1 88 11) * (37 : Int64)) + (((x2 - (48 : Int32)) + (1 : Int32)).toInt64))) 88 3 (((sW σ3 σ).1 88 3) + (1 : Int32))) Q))))))) :
  Wq 150 (d + 1) 39 [some (.ref 88), none] [] σ Q := by
  exact fk_run_sound (B := B_Parser_word) (C := C_Parser_word) (n := 19) ok_Parser_word h
set_option maxRecDepth 100000 in
set_option maxHeartbeats 4000000 in
theorem S_Parser_word_0 {d : Nat}  {σ : fkS} {Q : Option Value → fkS → Prop} 
  (h : (((σ.1 88 2) ≤ (σ.1 88 3) →
    Wq 150 (d + 1) 98 [some (.ref 88), none] [] σ Q) ∧
   (¬ (σ.1 88 2) ≤ (σ.1 88 3) →
    (Di d 147 [.ref 88, .int (σ.1 88 3)] σ (fun x2 σ1 =>
    (Di d 149 [.int x2] (sW σ1 σ) (fun x4 σ3 =>
    ((¬ x4 = 0 →
      Wq 150 (d + 1) 39 [some (.ref 88), none] [] (sW σ3 σ) Q) ∧
     (x4 = 0 →
      (Di d 147 [.ref 88, .int ((sW σ3 σ).1 88 3)] (sW σ3 σ) (fun x6 σ5 =>
      (Di d 151 [.int x6] (sW σ5 σ) (fun x8 σ7 =>
      ((x8 = 0 →
        Wq 150 (d + 1) 98 [some (.ref 88), none] [] (sW σ7 σ) Q) ∧
       (¬ x8 = 0 →
        Wq 150 (d + 1) 39 [some (.ref 88), none] [] (sW σ7 σ) Q))))))))))))))) :
  Wq 150 (d + 1) 0 [some (.ref 88), none] [] σ Q := by
  exact fk_run_sound (B := B_Parser_word) (C := C_Parser_word) (n := 19) ok_Parser_word h
set_option maxRecDepth 100000 in
set_option maxHeartbeats 4000000 in
theorem S_Parser_word_98 {d : Nat}  {σ : fkS} {Q : Option Value → fkS → Prop} 
  (h : ((((σ.1 88 3) - (σ.1 88 10)) ≤ (10 : Int32) →
    Wq 150 (d + 1) 123 [some (.ref 88), some (.int (0 : Int32))] [] (sI σ 88 9 (1 : Int32)) Q) ∧
   (¬ ((σ.1 88 3) - (σ.1 88 10)) ≤ (10 : Int32) →
    Wq 150 (d + 1) 123 [some (.ref 88), some (.int (0 : Int32))] [] (sI σ 88 9 (3 : Int32)) Q))) :
  Wq 150 (d + 1) 98 [some (.ref 88), none] [] σ Q := by
  exact fk_run_sound (B := B_Parser_word) (C := C_Parser_word) (n := 19) ok_Parser_word h
set_option maxRecDepth 100000 in
set_option maxHeartbeats 4000000 in
theorem S_Parser_word_123 {d : Nat} {v1 : Int32} {σ : fkS} {Q : Option Value → fkS → Prop} 
  (h : (fk_rg 2000 2000 (Di d 152 [.ref 2000] σ (fun x2 σ1 =>
  (¬ (5 : Int32) = 0 ∧
  (((x2 / (5 : Int32)) ≤ v1 →
    Q none (sW σ1 σ)) ∧
   (¬ (x2 / (5 : Int32)) ≤ v1 →
    (Di d 154 [.ref 88, .int v1] (sW σ1 σ) (fun x4 σ3 =>
    ((x4 = 0 →
      Wq 150 (d + 1) 123 [some (.ref 88), some (.int (v1 + (1 : Int32)))] [] (sW σ3 σ) Q) ∧
     (¬ x4 = 0 →
      Wq 150 (d + 1) 123 [some (.ref 88), some (.int (v1 + (1 : Int32)))] [] (sI (sW σ3 σ) 88 9 ((4 : Int32) + v1)) Q))))))))))) :
  Wq 150 (d + 1) 123 [some (.ref 88), some (.int v1)] [] σ Q := by
  exact fk_run_sound (B := B_Parser_word) (C := C_Parser_word) (n := 19) ok_Parser_word h
def B_jString_length : fkB := [(0, [(.aload_n 0, 1, []), (.getfield 9, 3, [2853, 0, 0, 0, 0, 0, 2]), (.arraylength, 1, [0, 0, 0, 0, 0, 0, 6]), (.aload_n 0, 1, []), (.invokevirtual 335, 3, [153, 0, 1527, 0, 1, 0, 8]), (.ishr, 1, []), (.ireturn, 1, [])])]
set_option maxRecDepth 100000 in
theorem ok_jString_length : fk_okM 152 B_jString_length = true := by decide +kernel
abbrev C_jString_length : fkC := []
set_option maxRecDepth 100000 in
set_option maxHeartbeats 4000000 in
theorem S_jString_length {d : Nat} {c0 : Nat} {σ : fkS} {Q : Option Value → fkS → Prop} 
  (h : (fk_rg c0 2000 
  (fk_rg (c0 + 1000) 3000 
  (fk_rg c0 2000 (Ci d 153 [.ref c0] σ (fun x2 σ1 =>
  Q (some (.int ((Int32.ofNat (fk_ln ((c0 + 1000) - 3000))) >>> (x2 &&& 31)))) σ1)))))) :
  Cl (d + 1) 152 [.ref c0] σ Q := by
  exact Cl.run B_jString_length C_jString_length 4 fk_q152 ok_jString_length rfl h
def B_jString_coder : fkB := [(0, [(.getstatic 38, 3, [1531, 0, 0, 0, 0, 0, 4]), (.ifCond .eq 10, 3, [13])]),
  (6, [(.aload_n 0, 1, []), (.getfield 15, 3, [2854, 0, 0, 0, 0, 0, 3]), (.goto 4, 3, [14])]),
  (13, [(.iconst 1, 1, [])]),
  (14, [(.ireturn, 1, [])])]
set_option maxRecDepth 100000 in
theorem ok_jString_coder : fk_okM 153 B_jString_coder = true := by decide +kernel
abbrev C_jString_coder : fkC := []
set_option maxRecDepth 100000 in
set_option maxHeartbeats 4000000 in
theorem S_jString_coder {d : Nat} {c0 : Nat} {σ : fkS} {Q : Option Value → fkS → Prop} 
  (h : (((1 : Int32) = 0 →
    (narrow .byte (.int (1 : Int32)) = .int (1 : Int32) ∧ Q (some (.int (1 : Int32))) σ)) ∧
   (¬ (1 : Int32) = 0 →
    (fk_rg c0 2000 
    (narrow .byte (.int (0 : Int32)) = .int (0 : Int32) ∧ Q (some (.int (0 : Int32))) σ))))) :
  Cl d 153 [.ref c0] σ Q := by
  exact Cl.run B_jString_coder C_jString_coder 7 fk_q153 ok_jString_coder rfl h
def B_Parser_isKeyword : fkB := [(0, [(.aload_n 0, 1, []), (.getfield 80, 3, [7, 3, 749, 0]), (.aload_n 0, 1, []), (.getfield 74, 3, [7, 10, 756, 0]), (.isub, 1, []), (.iconst 5, 1, []), (.if_icmp .le 5, 3, [15])]),
  (13, [(.iconst 0, 1, []), (.ireturn, 1, [])]),
  (15, [(.iconst 0, 1, []), (.istore_n 2, 1, [])]),
  (17, [(.iload_n 2, 1, []), (.iconst 5, 1, []), (.if_icmp .ge 54, 3, [73])]),
  (22, [(.aload_n 0, 1, []), (.getfield 74, 3, [7, 10, 756, 0]), (.iload_n 2, 1, []), (.iadd, 1, []), (.aload_n 0, 1, []), (.getfield 80, 3, [7, 3, 749, 0]), (.if_icmp .ge 16, 3, [48])]),
  (35, [(.aload_n 0, 1, []), (.aload_n 0, 1, []), (.getfield 74, 3, [7, 10, 756, 0]), (.iload_n 2, 1, []), (.iadd, 1, []), (.invokevirtual 86, 3, [147, 1, 1503, 0, 4, 7]), (.goto 5, 3, [50])]),
  (48, [(.bipush 32, 2, [])]),
  (50, [(.istore_n 3, 1, []), (.ldc 118, 2, [0, 0, 0, 0, 0, 0, 1]), (.iload_n 1, 1, []), (.iconst 5, 1, []), (.imul, 1, []), (.iload_n 2, 1, []), (.iadd, 1, []), (.invokevirtual 129, 3, [155, 1, 1537, 0, 4, 0, 8]), (.iload_n 3, 1, []), (.if_icmp .eq 5, 3, [67])]),
  (65, [(.iconst 0, 1, []), (.ireturn, 1, [])]),
  (67, [(.iinc 2 1, 3, []), (.goto (-53), 3, [17])]),
  (73, [(.iconst 1, 1, []), (.ireturn, 1, [])])]
set_option maxRecDepth 100000 in
theorem ok_Parser_isKeyword : fk_okM 154 B_Parser_isKeyword = true := by decide +kernel
abbrev C_Parser_isKeyword : fkC := [(17, [true, true, true, false]), (50, [true, true, true, false])]
set_option maxRecDepth 100000 in
set_option maxHeartbeats 4000000 in
theorem S_Parser_isKeyword {d : Nat} {a0 : Int32} {σ : fkS} {Q : Option Value → fkS → Prop} 
  (h : ((((σ.1 88 3) - (σ.1 88 10)) ≤ (5 : Int32) →
    Wq 154 (d + 1) 17 [some (.ref 88), some (.int a0), some (.int (0 : Int32)), none] [] σ Q) ∧
   (¬ ((σ.1 88 3) - (σ.1 88 10)) ≤ (5 : Int32) →
    Q (some (.int (0 : Int32))) σ))) :
  Cl (d + 1) 154 [.ref 88, .int a0] σ Q := by
  exact Cl.run B_Parser_isKeyword C_Parser_isKeyword 14 fk_q154 ok_Parser_isKeyword rfl h
set_option maxRecDepth 100000 in
set_option maxHeartbeats 4000000 in
theorem S_Parser_isKeyword_17 {d : Nat} {v1 : Int32} {v2 : Int32} {σ : fkS} {Q : Option Value → fkS → Prop} 
  (h : (((5 : Int32) ≤ v2 →
    Q (some (.int (1 : Int32))) σ) ∧
   (¬ (5 : Int32) ≤ v2 →
    (((σ.1 88 3) ≤ ((σ.1 88 10) + v2) →
      Wq 154 (d + 1) 50 [some (.ref 88), some (.int v1), some (.int v2), none] [.int (32 : Int32)] σ Q) ∧
     (¬ (σ.1 88 3) ≤ ((σ.1 88 10) + v2) →
      (Di d 147 [.ref 88, .int ((σ.1 88 10) + v2)] σ (fun x2 σ1 =>
      Wq 154 (d + 1) 50 [some (.ref 88), some (.int v1), some (.int v2), none] [.int x2] (sW σ1 σ) Q))))))) :
  Wq 154 (d + 1) 17 [some (.ref 88), some (.int v1), some (.int v2), none] [] σ Q := by
  exact fk_run_sound (B := B_Parser_isKeyword) (C := C_Parser_isKeyword) (n := 14) ok_Parser_isKeyword h
set_option maxRecDepth 100000 in
set_option maxHeartbeats 4000000 in
theorem S_Parser_isKeyword_50 {d : Nat} {v1 : Int32} {v2 : Int32} {s0 : Int32} {σ : fkS} {Q : Option Value → fkS → Prop} 
  (h : (fk_rg 2000 2000 (Di d 155 [.ref 2000, .int ((v1 * (5 : Int32)) + v2)] σ (fun x2 σ1 =>
  ((x2 = s0 →
    Wq 154 (d + 1) 17 [some (.ref 88), some (.int v1), some (.int (v2 + (1 : Int32))), none] [] (sW σ1 σ) Q) ∧
   (¬ x2 = s0 →
    Q (some (.int (0 : Int32))) (sW σ1 σ))))))) :
  Wq 154 (d + 1) 50 [some (.ref 88), some (.int v1), some (.int v2), none] [.int s0] σ Q := by
  exact fk_run_sound (B := B_Parser_isKeyword) (C := C_Parser_isKeyword) (n := 14) ok_Parser_isKeyword h
def B_jString_charAt : fkB := [(0, [(.aload_n 0, 1, []), (.invokevirtual 492, 3, [156, 0, 1541, 0, 1, 0, 8]), (.ifCond .eq 12, 3, [16])]),
  (7, [(.aload_n 0, 1, []), (.getfield 9, 3, [2853, 0, 0, 0, 0, 0, 2]), (.iload_n 1, 1, []), (.invokestatic 495, 3, [157, 2, 1545, 0, 1]), (.ireturn, 1, [])]),
  (16, [(.aload_n 0, 1, []), (.getfield 9, 3, [2853, 0, 0, 0, 0, 0, 2]), (.iload_n 1, 1, []), (.invokestatic 498, 3, [160, 2, 1556, 0, 1]), (.ireturn, 1, [])])]
set_option maxRecDepth 100000 in
theorem ok_jString_charAt : fk_okM 155 B_jString_charAt = true := by decide +kernel
abbrev C_jString_charAt : fkC := []
set_option maxRecDepth 100000 in
set_option maxHeartbeats 4000000 in
theorem S_jString_charAt {d : Nat} {c0 : Nat} {a0 : Int32} {σ : fkS} {Q : Option Value → fkS → Prop} 
  (h : (fk_rg c0 2000 (Ci d 156 [.ref c0] σ (fun x2 σ1 =>
  ((x2 = 0 →
    (fk_rg c0 2000 
    (Ci d 160 [.ref (c0 + 1000), .int a0] σ1 (fun x4 σ3 =>
    (narrow .char (.int x4) = .int x4 ∧ Q (some (.int x4)) σ3))))) ∧
   (¬ x2 = 0 →
    (fk_rg c0 2000 
    (Ci d 157 [.ref (c0 + 1000), .int a0] σ1 (fun x6 σ5 =>
    (narrow .char (.int x6) = .int x6 ∧ Q (some (.int x6)) σ5)))))))))) :
  Cl (d + 1) 155 [.ref c0, .int a0] σ Q := by
  exact Cl.run B_jString_charAt C_jString_charAt 6 fk_q155 ok_jString_charAt rfl h
def B_jString_isLatin1 : fkB := [(0, [(.getstatic 38, 3, [1531, 0, 0, 0, 0, 0, 4]), (.ifCond .eq 14, 3, [17])]),
  (6, [(.aload_n 0, 1, []), (.getfield 15, 3, [2854, 0, 0, 0, 0, 0, 3]), (.ifCond .ne 7, 3, [17])]),
  (13, [(.iconst 1, 1, []), (.goto 4, 3, [18])]),
  (17, [(.iconst 0, 1, [])]),
  (18, [(.ireturn, 1, [])])]
set_option maxRecDepth 100000 in
theorem ok_jString_isLatin1 : fk_okM 156 B_jString_isLatin1 = true := by decide +kernel
abbrev C_jString_isLatin1 : fkC := []
set_option maxRecDepth 100000 in
set_option maxHeartbeats 4000000 in
theorem S_jString_isLatin1 {d : Nat} {c0 : Nat} {σ : fkS} {Q : Option Value → fkS → Prop} 
  (h : (((1 : Int32) = 0 →
    Q (some (.int (0 : Int32))) σ) ∧
   (¬ (1 : Int32) = 0 →
    (fk_rg c0 2000 
    ((¬ (0 : Int32) = 0 →
      Q (some (.int (0 : Int32))) σ) ∧
     ((0 : Int32) = 0 →
      Q (some (.int (1 : Int32))) σ)))))) :
  Cl d 156 [.ref c0] σ Q := by
  exact Cl.run B_jString_isLatin1 C_jString_isLatin1 8 fk_q156 ok_jString_isLatin1 rfl h
def B_jStringLatin1_charAt : fkB := [(0, [(.iload_n 1, 1, []), (.aload_n 0, 1, []), (.arraylength, 1, [0, 0, 0, 0, 0, 0, 6]), (.invokestatic 9, 3, [158, 2, 1548, 0, 0]), (.aload_n 0, 1, []), (.iload_n 1, 1, []), (.baload, 1, [0, 0, 0, 0, 0, 0, 7]), (.sipush 255, 3, []), (.iand, 1, []), (.i2c, 1, []), (.ireturn, 1, [])])]
set_option maxRecDepth 100000 in
theorem ok_jStringLatin1_charAt : fk_okM 157 B_jStringLatin1_charAt = true := by decide +kernel
abbrev C_jStringLatin1_charAt : fkC := []
set_option maxRecDepth 100000 in
set_option maxHeartbeats 4000000 in
theorem S_jStringLatin1_charAt {d : Nat} {c1 : Nat} {a1 : Int32} {σ : fkS} {Q : Option Value → fkS → Prop} 
  (h : (fk_rg c1 3000 
  (Cv d 158 [.int a1, .int (Int32.ofNat (fk_ln (c1 - 3000)))] σ (fun σ1 =>
  (fk_rg c1 3000 (vp_in a1 (fk_ln (c1 - 3000)) ∧
  (narrow .char (.int (fk_i2c (((fk_bt (c1 - 3000)).getD a1.toNatClampNeg 0) &&& (255 : Int32)))) = .int (fk_i2c (((fk_bt (c1 - 3000)).getD a1.toNatClampNeg 0) &&& (255 : Int32))) ∧ Q (some (.int (fk_i2c (((fk_bt (c1 - 3000)).getD a1.toNatClampNeg 0) &&& (255 : Int32))))) σ1))))))) :
  Cl (d + 1) 157 [.ref c1, .int a1] σ Q := by
  exact Cl.run B_jStringLatin1_charAt C_jStringLatin1_charAt 4 fk_q157 ok_jStringLatin1_charAt rfl h
def B_jString_checkIndex : fkB := [(0, [(.iload_n 0, 1, []), (.iload_n 1, 1, []), (.getstatic 1053, 3, [1551, 0, 0, 0, 0, 0, 5]), (.invokestatic 1059, 3, [159, 3, 1553, 0, 1]), (.pop, 1, []), (.return_, 1, [])])]
set_option maxRecDepth 100000 in
theorem ok_jString_checkIndex : fk_okM 158 B_jString_checkIndex = true := by decide +kernel
abbrev C_jString_checkIndex : fkC := []
set_option maxRecDepth 100000 in
set_option maxHeartbeats 4000000 in
theorem S_jString_checkIndex {d : Nat} {a0 : Int32} {a1 : Int32} {σ : fkS} {Q : Option Value → fkS → Prop} 
  (h : (Ci d 159 [.int a0, .int a1, .null] σ (fun x2 σ1 =>
  Q none σ1))) :
  Cl (d + 1) 158 [.int a0, .int a1] σ Q := by
  exact Cl.run B_jString_checkIndex C_jString_checkIndex 4 fk_q158 ok_jString_checkIndex rfl h
def B_jPreconditions_checkIndex : fkB := [(0, [(.iload_n 0, 1, []), (.ifCond .lt 8, 3, [9])]),
  (4, [(.iload_n 0, 1, []), (.iload_n 1, 1, []), (.if_icmp .lt 10, 3, [16])]),
  (9, [(.aload_n 2, 1, []), (.iload_n 0, 1, []), (.iload_n 1, 1, [])]),
  (16, [(.iload_n 0, 1, []), (.ireturn, 1, [])])]
set_option maxRecDepth 100000 in
theorem ok_jPreconditions_checkIndex : fk_okM 159 B_jPreconditions_checkIndex = true := by decide +kernel
abbrev C_jPreconditions_checkIndex : fkC := []
set_option maxRecDepth 100000 in
set_option maxHeartbeats 4000000 in
theorem S_jPreconditions_checkIndex {d : Nat} {a0 : Int32} {a1 : Int32} {σ : fkS} {Q : Option Value → fkS → Prop} 
  (h : ((a0 < 0 →
    False) ∧
   (¬ a0 < 0 →
    ((a0 < a1 →
      Q (some (.int a0)) σ) ∧
     (¬ a0 < a1 →
      False))))) :
  Cl d 159 [.int a0, .int a1, .null] σ Q := by
  exact Cl.run B_jPreconditions_checkIndex C_jPreconditions_checkIndex 7 fk_q159 ok_jPreconditions_checkIndex rfl h
def B_Parser_sign : fkB := [(0, [(.aload_n 0, 1, []), (.aload_n 0, 1, []), (.getfield 74, 3, [7, 10, 756, 0]), (.iconst 1, 1, []), (.iadd, 1, []), (.invokevirtual 86, 3, [147, 1, 1503, 0, 4, 7]), (.istore_n 2, 1, []), (.aload_n 0, 1, []), (.dup, 1, []), (.getfield 80, 3, [7, 3, 749, 0]), (.iconst 1, 1, []), (.iadd, 1, []), (.putfield 80, 3, [7, 3, 749, 0]), (.iload_n 1, 1, []), (.bipush 61, 2, []), (.if_icmp .ne 29, 3, [53])]),
  (27, [(.iload_n 2, 1, []), (.bipush 61, 2, []), (.if_icmp .ne 23, 3, [53])]),
  (33, [(.aload_n 0, 1, []), (.dup, 1, []), (.getfield 80, 3, [7, 3, 749, 0]), (.iconst 1, 1, []), (.iadd, 1, []), (.putfield 80, 3, [7, 3, 749, 0]), (.aload_n 0, 1, []), (.sipush 128, 3, []), (.putfield 64, 3, [7, 9, 755, 0]), (.goto 61, 3, [111])]),
  (53, [(.iload_n 1, 1, []), (.bipush 45, 2, []), (.if_icmp .ne 29, 3, [85])]),
  (59, [(.iload_n 2, 1, []), (.bipush 62, 2, []), (.if_icmp .ne 23, 3, [85])]),
  (65, [(.aload_n 0, 1, []), (.dup, 1, []), (.getfield 80, 3, [7, 3, 749, 0]), (.iconst 1, 1, []), (.iadd, 1, []), (.putfield 80, 3, [7, 3, 749, 0]), (.aload_n 0, 1, []), (.sipush 129, 3, []), (.putfield 64, 3, [7, 9, 755, 0]), (.goto 29, 3, [111])]),
  (85, [(.aload_n 0, 1, []), (.iload_n 1, 1, []), (.sipush 128, 3, []), (.if_icmp .ge 17, 3, [107])]),
  (93, [(.ldc 144, 2, [1, 0, 0, 0, 0, 0, 1]), (.iload_n 1, 1, []), (.i2c, 1, []), (.invokevirtual 146, 3, [166, 1, 1589, 0, 4, 0, 8]), (.ifCond .lt 7, 3, [107])]),
  (103, [(.iload_n 1, 1, []), (.goto 4, 3, [108])]),
  (107, [(.iconst 3, 1, [])]),
  (108, [(.putfield 64, 3, [7, 9, 755, 0])]),
  (111, [(.return_, 1, [])])]
set_option maxRecDepth 100000 in
theorem ok_Parser_sign : fk_okM 165 B_Parser_sign = true := by decide +kernel
abbrev C_Parser_sign : fkC := [(53, [true, true, true]), (85, [true, true, false])]
set_option maxRecDepth 100000 in
set_option maxHeartbeats 4000000 in
theorem S_Parser_sign {d : Nat} {a0 : Int32} {σ : fkS} {Q : Option Value → fkS → Prop} 
  (h : (Di d 147 [.ref 88, .int ((σ.1 88 10) + (1 : Int32))] σ (fun x2 σ1 =>
  ((¬ a0 = (61 : Int32) →
    Wq 165 (d + 1) 53 [some (.ref 88), some (.int a0), some (.int x2)] [] (sI (sW σ1 σ) 88 3 (((sW σ1 σ).1 88 3) + (1 : Int32))) Q) ∧
   (a0 = (61 : Int32) →
    ((¬ x2 = (61 : Int32) →
      Wq 165 (d + 1) 53 [some (.ref 88), some (.int a0), some (.int x2)] [] (sI (sW σ1 σ) 88 3 (((sW σ1 σ).1 88 3) + (1 : Int32))) Q) ∧
     (x2 = (61 : Int32) →
      Q none (sI (sI (sI (sW σ1 σ) 88 3 (((sW σ1 σ).1 88 3) + (1 : Int32))) 88 3 ((((sW σ1 σ).1 88 3) + (1 : Int32)) + (1 : Int32))) 88 9 (128 : Int32))))))))) :
  Cl (d + 1) 165 [.ref 88, .int a0] σ Q := by
  exact Cl.run B_Parser_sign C_Parser_sign 15 fk_q165 ok_Parser_sign rfl h
set_option maxRecDepth 100000 in
set_option maxHeartbeats 4000000 in
theorem S_Parser_sign_53 {d : Nat} {v1 : Int32} {v2 : Int32} {σ : fkS} {Q : Option Value → fkS → Prop} 
  (h : ((¬ v1 = (45 : Int32) →
    Wq 165 (d + 1) 85 [some (.ref 88), some (.int v1), none] [] σ Q) ∧
   (v1 = (45 : Int32) →
    ((¬ v2 = (62 : Int32) →
      Wq 165 (d + 1) 85 [some (.ref 88), some (.int v1), none] [] σ Q) ∧
     (v2 = (62 : Int32) →
      Q none (sI (sI σ 88 3 ((σ.1 88 3) + (1 : Int32))) 88 9 (129 : Int32))))))) :
  Wq 165 (d + 1) 53 [some (.ref 88), some (.int v1), some (.int v2)] [] σ Q := by
  exact fk_run_sound (B := B_Parser_sign) (C := C_Parser_sign) (n := 15) ok_Parser_sign h
set_option maxRecDepth 100000 in
set_option maxHeartbeats 4000000 in
theorem S_Parser_sign_85 {d : Nat} {v1 : Int32} {σ : fkS} {Q : Option Value → fkS → Prop} 
  (h : (((128 : Int32) ≤ v1 →
    Q none (sI σ 88 9 (3 : Int32))) ∧
   (¬ (128 : Int32) ≤ v1 →
    (fk_rg 2001 2000 (Di d 166 [.ref 2001, .int (fk_i2c v1)] σ (fun x2 σ1 =>
    ((x2 < 0 →
      Q none (sI (sW σ1 σ) 88 9 (3 : Int32))) ∧
     (¬ x2 < 0 →
      Q none (sI (sW σ1 σ) 88 9 v1))))))))) :
  Wq 165 (d + 1) 85 [some (.ref 88), some (.int v1), none] [] σ Q := by
  exact fk_run_sound (B := B_Parser_sign) (C := C_Parser_sign) (n := 15) ok_Parser_sign h
def B_jString_indexOf0 : fkB := [(0, [(.aload_n 0, 1, []), (.iload_n 1, 1, []), (.iconst 0, 1, []), (.invokevirtual 633, 3, [167, 2, 1593, 0, 1, 0, 8]), (.ireturn, 1, [])])]
set_option maxRecDepth 100000 in
theorem ok_jString_indexOf0 : fk_okM 166 B_jString_indexOf0 = true := by decide +kernel
abbrev C_jString_indexOf0 : fkC := []
set_option maxRecDepth 100000 in
set_option maxHeartbeats 4000000 in
theorem S_jString_indexOf0 {d : Nat} {c0 : Nat} {a0 : Int32} {σ : fkS} {Q : Option Value → fkS → Prop} 
  (h : (fk_rg c0 2000 (Ci d 167 [.ref c0, .int a0, .int (0 : Int32)] σ (fun x2 σ1 =>
  Q (some (.int x2)) σ1)))) :
  Cl (d + 1) 166 [.ref c0, .int a0] σ Q := by
  exact Cl.run B_jString_indexOf0 C_jString_indexOf0 4 fk_q166 ok_jString_indexOf0 rfl h
def B_jString_indexOf1 : fkB := [(0, [(.aload_n 0, 1, []), (.invokevirtual 492, 3, [156, 0, 1541, 0, 1, 0, 8]), (.ifCond .eq 19, 3, [23])]),
  (7, [(.aload_n 0, 1, []), (.getfield 9, 3, [2853, 0, 0, 0, 0, 0, 2]), (.iload_n 1, 1, []), (.iload_n 2, 1, []), (.aload_n 0, 1, []), (.invokevirtual 505, 3, [152, 0, 1597, 0, 1, 0, 8]), (.invokestatic 637, 3, [168, 4, 1598, 0, 1]), (.goto 16, 3, [36])]),
  (23, [(.aload_n 0, 1, []), (.getfield 9, 3, [2853, 0, 0, 0, 0, 0, 2]), (.iload_n 1, 1, []), (.iload_n 2, 1, []), (.aload_n 0, 1, []), (.invokevirtual 505, 3, [152, 0, 1597, 0, 1, 0, 8]), (.invokestatic 640, 3, [171, 4, 1609, 0, 1])]),
  (36, [(.ireturn, 1, [])])]
set_option maxRecDepth 100000 in
theorem ok_jString_indexOf1 : fk_okM 167 B_jString_indexOf1 = true := by decide +kernel
abbrev C_jString_indexOf1 : fkC := []
set_option maxRecDepth 100000 in
set_option maxHeartbeats 4000000 in
theorem S_jString_indexOf1 {d : Nat} {c0 : Nat} {a0 : Int32} {a1 : Int32} {σ : fkS} {Q : Option Value → fkS → Prop} 
  (h : (fk_rg c0 2000 (Ci d 156 [.ref c0] σ (fun x2 σ1 =>
  ((x2 = 0 →
    (fk_rg c0 2000 
    (fk_rg c0 2000 (Ci d 152 [.ref c0] σ1 (fun x4 σ3 =>
    (Ci d 171 [.ref (c0 + 1000), .int a0, .int a1, .int x4] σ3 (fun x6 σ5 =>
    Q (some (.int x6)) σ5))))))) ∧
   (¬ x2 = 0 →
    (fk_rg c0 2000 
    (fk_rg c0 2000 (Ci d 152 [.ref c0] σ1 (fun x8 σ7 =>
    (Ci d 168 [.ref (c0 + 1000), .int a0, .int a1, .int x8] σ7 (fun x10 σ9 =>
    Q (some (.int x10)) σ9)))))))))))) :
  Cl (d + 1) 167 [.ref c0, .int a0, .int a1] σ Q := by
  exact Cl.run B_jString_indexOf1 C_jString_indexOf1 7 fk_q167 ok_jString_indexOf1 rfl h
def B_jStringLatin1_indexOf : fkB := [(0, [(.iload_n 1, 1, []), (.invokestatic 88, 3, [169, 1, 1601, 0, 1]), (.ifCond .ne 5, 3, [9])]),
  (7, [(.iconst (-1), 1, []), (.ireturn, 1, [])]),
  (9, [(.iload_n 2, 1, []), (.iconst 0, 1, []), (.invokestatic 92, 3, [1001, 0, 1604]), (.istore_n 2, 1, []), (.iload_n 3, 1, []), (.aload_n 0, 1, []), (.arraylength, 1, [0, 0, 0, 0, 0, 0, 6]), (.invokestatic 38, 3, [1002, 0, 1605]), (.istore_n 3, 1, []), (.iload_n 2, 1, []), (.iload_n 3, 1, []), (.if_icmp .lt 5, 3, [29])]),
  (27, [(.iconst (-1), 1, []), (.ireturn, 1, [])]),
  (29, [(.aload_n 0, 1, []), (.iload_n 1, 1, []), (.iload_n 2, 1, []), (.iload_n 3, 1, []), (.invokestatic 95, 3, [170, 4, 1606, 0, 1]), (.ireturn, 1, [])])]
set_option maxRecDepth 100000 in
theorem ok_jStringLatin1_indexOf : fk_okM 168 B_jStringLatin1_indexOf = true := by decide +kernel
abbrev C_jStringLatin1_indexOf : fkC := []
set_option maxRecDepth 100000 in
set_option maxHeartbeats 4000000 in
theorem S_jStringLatin1_indexOf {d : Nat} {c1 : Nat} {a1 : Int32} {a2 : Int32} {a3 : Int32} {σ : fkS} {Q : Option Value → fkS → Prop} 
  (h : (Ci d 169 [.int a1] σ (fun x2 σ1 =>
  ((¬ x2 = 0 →
    (fk_rg c1 3000 
    (((if a2 < (0 : Int32) then (0 : Int32) else a2) < (if (Int32.ofNat (fk_ln (c1 - 3000))) < a3 then (Int32.ofNat (fk_ln (c1 - 3000))) else a3) →
      (Ci d 170 [.ref c1, .int a1, .int (if a2 < (0 : Int32) then (0 : Int32) else a2), .int (if (Int32.ofNat (fk_ln (c1 - 3000))) < a3 then (Int32.ofNat (fk_ln (c1 - 3000))) else a3)] σ1 (fun x4 σ3 =>
      Q (some (.int x4)) σ3))) ∧
     (¬ (if a2 < (0 : Int32) then (0 : Int32) else a2) < (if (Int32.ofNat (fk_ln (c1 - 3000))) < a3 then (Int32.ofNat (fk_ln (c1 - 3000))) else a3) →
      Q (some (.int (-1 : Int32))) σ1)))) ∧
   (x2 = 0 →
    Q (some (.int (-1 : Int32))) σ1))))) :
  Cl (d + 1) 168 [.ref c1, .int a1, .int a2, .int a3] σ Q := by
  exact Cl.run B_jStringLatin1_indexOf C_jStringLatin1_indexOf 8 fk_q168 ok_jStringLatin1_indexOf rfl h
def B_jStringLatin1_canEncode : fkB := [(0, [(.iload_n 0, 1, []), (.ifCond .lt 14, 3, [15])]),
  (4, [(.iload_n 0, 1, []), (.sipush 255, 3, []), (.if_icmp .gt 7, 3, [15])]),
  (11, [(.iconst 1, 1, []), (.goto 4, 3, [16])]),
  (15, [(.iconst 0, 1, [])]),
  (16, [(.ireturn, 1, [])])]
set_option maxRecDepth 100000 in
theorem ok_jStringLatin1_canEncode : fk_okM 169 B_jStringLatin1_canEncode = true := by decide +kernel
abbrev C_jStringLatin1_canEncode : fkC := []
set_option maxRecDepth 100000 in
set_option maxHeartbeats 4000000 in
theorem S_jStringLatin1_canEncode {d : Nat} {a0 : Int32} {σ : fkS} {Q : Option Value → fkS → Prop} 
  (h : ((a0 < 0 →
    Q (some (.int (0 : Int32))) σ) ∧
   (¬ a0 < 0 →
    (((255 : Int32) < a0 →
      Q (some (.int (0 : Int32))) σ) ∧
     (¬ (255 : Int32) < a0 →
      Q (some (.int (1 : Int32))) σ))))) :
  Cl d 169 [.int a0] σ Q := by
  exact Cl.run B_jStringLatin1_canEncode C_jStringLatin1_canEncode 8 fk_q169 ok_jStringLatin1_canEncode rfl h
def B_jStringLatin1_indexOfChar : fkB := [(0, [(.iload_n 1, 1, []), (.i2b, 1, []), (.istore 4, 2, []), (.iload_n 2, 1, []), (.istore 5, 2, [])]),
  (7, [(.iload 5, 2, []), (.iload_n 3, 1, []), (.if_icmp .ge 21, 3, [31])]),
  (13, [(.aload_n 0, 1, []), (.iload 5, 2, []), (.baload, 1, [0, 0, 0, 0, 0, 0, 7]), (.iload 4, 2, []), (.if_icmp .ne 6, 3, [25])]),
  (22, [(.iload 5, 2, []), (.ireturn, 1, [])]),
  (25, [(.iinc 5 1, 3, []), (.goto (-21), 3, [7])]),
  (31, [(.iconst (-1), 1, []), (.ireturn, 1, [])])]
set_option maxRecDepth 100000 in
theorem ok_jStringLatin1_indexOfChar : fk_okM 170 B_jStringLatin1_indexOfChar = true := by decide +kernel
abbrev C_jStringLatin1_indexOfChar : fkC := [(7, [true, false, false, true, true, true])]
set_option maxRecDepth 100000 in
set_option maxHeartbeats 4000000 in
theorem S_jStringLatin1_indexOfChar {d : Nat} {c1 : Nat} {a1 : Int32} {a2 : Int32} {a3 : Int32} {σ : fkS} {Q : Option Value → fkS → Prop} 
  (h : Wq 170 d 7 [some (.ref c1), none, none, some (.int a3), some (.int a1.toInt8.toInt32), some (.int a2)] [] σ Q) :
  Cl d 170 [.ref c1, .int a1, .int a2, .int a3] σ Q := by
  exact Cl.run B_jStringLatin1_indexOfChar C_jStringLatin1_indexOfChar 9 fk_q170 ok_jStringLatin1_indexOfChar rfl h
set_option maxRecDepth 100000 in
set_option maxHeartbeats 4000000 in
theorem S_jStringLatin1_indexOfChar_7 {d : Nat} {c1 : Nat} {v3 : Int32} {v4 : Int32} {v5 : Int32} {σ : fkS} {Q : Option Value → fkS → Prop} 
  (h : ((v3 ≤ v5 →
    Q (some (.int (-1 : Int32))) σ) ∧
   (¬ v3 ≤ v5 →
    (fk_rg c1 3000 (vp_in v5 (fk_ln (c1 - 3000)) ∧
    ((¬ ((fk_bt (c1 - 3000)).getD v5.toNatClampNeg 0) = v4 →
      Wq 170 d 7 [some (.ref c1), none, none, some (.int v3), some (.int v4), some (.int (v5 + (1 : Int32)))] [] σ Q) ∧
     (((fk_bt (c1 - 3000)).getD v5.toNatClampNeg 0) = v4 →
      Q (some (.int v5)) σ))))))) :
  Wq 170 d 7 [some (.ref c1), none, none, some (.int v3), some (.int v4), some (.int v5)] [] σ Q := by
  exact fk_run_sound (B := B_jStringLatin1_indexOfChar) (C := C_jStringLatin1_indexOfChar) (n := 9) ok_jStringLatin1_indexOfChar h
def B_M_scan : fkB := [(0, [(.aload_n 0, 1, []), (.aload_n 0, 1, []), (.getfield 633, 3, [12, 80, 1957, 0]), (.invokevirtual 636, 3, [326, 1, 2664, 0, 1, 12]), (.bipush 32, 2, []), (.if_icmp .eq 16, 3, [26])]),
  (13, [(.aload_n 0, 1, []), (.aload_n 0, 1, []), (.getfield 633, 3, [12, 80, 1957, 0]), (.invokevirtual 636, 3, [326, 1, 2664, 0, 1, 12]), (.bipush 10, 2, []), (.if_icmp .ne 16, 3, [39])]),
  (26, [(.aload_n 0, 1, []), (.dup, 1, []), (.getfield 633, 3, [12, 80, 1957, 0]), (.iconst 1, 1, []), (.iadd, 1, []), (.putfield 633, 3, [12, 80, 1957, 0]), (.goto (-36), 3, [0])]),
  (39, [(.aload_n 0, 1, []), (.aload_n 0, 1, []), (.getfield 633, 3, [12, 80, 1957, 0]), (.putfield 639, 3, [12, 83, 1960, 0]), (.aload_n 0, 1, []), (.lconst 0, 1, []), (.putfield 642, 3, [12, 85, 1962, 0]), (.aload_n 0, 1, []), (.aload_n 0, 1, []), (.getfield 633, 3, [12, 80, 1957, 0]), (.invokevirtual 636, 3, [326, 1, 2664, 0, 1, 12]), (.istore_n 1, 1, []), (.iload_n 1, 1, []), (.ifCond .ge 9, 3, [71])]),
  (65, [(.aload_n 0, 1, []), (.iconst 0, 1, []), (.putfield 645, 3, [12, 82, 1959, 0]), (.return_, 1, [])]),
  (71, [(.iload_n 1, 1, []), (.invokestatic 648, 3, [327, 1, 2668, 0, 1]), (.ifCond .eq 76, 3, [151])]),
  (78, [(.aload_n 0, 1, []), (.aload_n 0, 1, []), (.getfield 633, 3, [12, 80, 1957, 0]), (.invokevirtual 636, 3, [326, 1, 2664, 0, 1, 12]), (.invokestatic 648, 3, [327, 1, 2668, 0, 1]), (.ifCond .ne 17, 3, [106])]),
  (92, [(.aload_n 0, 1, []), (.aload_n 0, 1, []), (.getfield 633, 3, [12, 80, 1957, 0]), (.invokevirtual 636, 3, [326, 1, 2664, 0, 1, 12]), (.invokestatic 651, 3, [328, 1, 2671, 0, 1]), (.ifCond .eq 16, 3, [119])]),
  (106, [(.aload_n 0, 1, []), (.dup, 1, []), (.getfield 633, 3, [12, 80, 1957, 0]), (.iconst 1, 1, []), (.iadd, 1, []), (.putfield 633, 3, [12, 80, 1957, 0]), (.goto (-38), 3, [78])]),
  (119, [(.aload_n 0, 1, []), (.aload_n 0, 1, []), (.getfield 633, 3, [12, 80, 1957, 0]), (.aload_n 0, 1, []), (.getfield 639, 3, [12, 83, 1960, 0]), (.isub, 1, []), (.putfield 654, 3, [12, 84, 1961, 0]), (.aload_n 0, 1, []), (.aload_n 0, 1, []), (.getfield 654, 3, [12, 84, 1961, 0]), (.bipush 10, 2, []), (.if_icmp .le 7, 3, [146])]),
  (142, [(.iconst (-1), 1, []), (.goto 4, 3, [147])]),
  (146, [(.iconst 1, 1, [])]),
  (147, [(.putfield 645, 3, [12, 82, 1959, 0]), (.return_, 1, [])]),
  (151, [(.iload_n 1, 1, []), (.invokestatic 651, 3, [328, 1, 2671, 0, 1]), (.ifCond .eq 96, 3, [251])]),
  (158, [(.aload_n 0, 1, []), (.iconst 2, 1, []), (.putfield 645, 3, [12, 82, 1959, 0])]),
  (163, [(.aload_n 0, 1, []), (.aload_n 0, 1, []), (.getfield 633, 3, [12, 80, 1957, 0]), (.invokevirtual 636, 3, [326, 1, 2664, 0, 1, 12]), (.invokestatic 651, 3, [328, 1, 2671, 0, 1]), (.ifCond .eq 60, 3, [234])]),
  (177, [(.aload_n 0, 1, []), (.aload_n 0, 1, []), (.getfield 642, 3, [12, 85, 1962, 0]), (.ldc2_w 657, 3, [2147483647, 2674]), (.lcmp, 1, []), (.ifCond .le 10, 3, [196])]),
  (189, [(.aload_n 0, 1, []), (.getfield 642, 3, [12, 85, 1962, 0]), (.goto 25, 3, [218])]),
  (196, [(.ldc2_w 659, 3, [10, 2675]), (.aload_n 0, 1, []), (.getfield 642, 3, [12, 85, 1962, 0]), (.lmul, 1, []), (.aload_n 0, 1, []), (.aload_n 0, 1, []), (.getfield 633, 3, [12, 80, 1957, 0]), (.invokevirtual 636, 3, [326, 1, 2664, 0, 1, 12]), (.i2l, 1, []), (.ladd, 1, []), (.ldc2_w 661, 3, [48, 2676]), (.lsub, 1, [])]),
  (218, [(.putfield 642, 3, [12, 85, 1962, 0]), (.aload_n 0, 1, []), (.dup, 1, []), (.getfield 633, 3, [12, 80, 1957, 0]), (.iconst 1, 1, []), (.iadd, 1, []), (.putfield 633, 3, [12, 80, 1957, 0]), (.goto (-68), 3, [163])]),
  (234, [(.aload_n 0, 1, []), (.getfield 642, 3, [12, 85, 1962, 0]), (.ldc2_w 657, 3, [2147483647, 2674]), (.lcmp, 1, []), (.ifCond .le 8, 3, [250])]),
  (245, [(.aload_n 0, 1, []), (.iconst (-1), 1, []), (.putfield 645, 3, [12, 82, 1959, 0])]),
  (250, [(.return_, 1, [])]),
  (251, [(.iload_n 1, 1, []), (.bipush 61, 2, []), (.if_icmp .ne 18, 3, [272])]),
  (257, [(.aload_n 0, 1, []), (.aload_n 0, 1, []), (.getfield 633, 3, [12, 80, 1957, 0]), (.iconst 1, 1, []), (.iadd, 1, []), (.invokevirtual 636, 3, [326, 1, 2664, 0, 1, 12]), (.bipush 61, 2, []), (.if_icmp .eq 24, 3, [293])]),
  (272, [(.iload_n 1, 1, []), (.bipush 45, 2, []), (.if_icmp .ne 22, 3, [297])]),
  (278, [(.aload_n 0, 1, []), (.aload_n 0, 1, []), (.getfield 633, 3, [12, 80, 1957, 0]), (.iconst 1, 1, []), (.iadd, 1, []), (.invokevirtual 636, 3, [326, 1, 2664, 0, 1, 12]), (.bipush 62, 2, []), (.if_icmp .ne 7, 3, [297])]),
  (293, [(.iconst 1, 1, []), (.goto 4, 3, [298])]),
  (297, [(.iconst 0, 1, [])]),
  (298, [(.istore_n 2, 1, []), (.aload_n 0, 1, []), (.iload_n 2, 1, []), (.ifCond .eq 20, 3, [321])]),
  (304, [(.iload_n 1, 1, []), (.bipush 61, 2, []), (.if_icmp .ne 8, 3, [315])]),
  (310, [(.bipush 69, 2, []), (.goto 5, 3, [317])]),
  (315, [(.bipush 65, 2, [])]),
  (317, [(.i2l, 1, []), (.goto 5, 3, [323])]),
  (321, [(.iload_n 1, 1, []), (.i2l, 1, [])]),
  (323, [(.putfield 642, 3, [12, 85, 1962, 0]), (.aload_n 0, 1, []), (.iload_n 2, 1, []), (.ifCond .ne 13, 3, [341])]),
  (331, [(.ldc_w 663, 3, [2, 0, 0, 0, 0, 0, 1]), (.iload_n 1, 1, []), (.invokevirtual 665, 3, [166, 1, 2678, 0, 1, 0, 8]), (.ifCond .lt 7, 3, [345])]),
  (341, [(.iconst 3, 1, []), (.goto 4, 3, [346])]),
  (345, [(.iconst (-1), 1, [])]),
  (346, [(.putfield 645, 3, [12, 82, 1959, 0]), (.aload_n 0, 1, []), (.dup, 1, []), (.getfield 633, 3, [12, 80, 1957, 0]), (.iload_n 2, 1, []), (.ifCond .eq 7, 3, [362])]),
  (358, [(.iconst 2, 1, []), (.goto 4, 3, [363])]),
  (362, [(.iconst 1, 1, [])]),
  (363, [(.iadd, 1, []), (.putfield 633, 3, [12, 80, 1957, 0]), (.return_, 1, [])])]
set_option maxRecDepth 100000 in
theorem ok_M_scan : fk_okM 325 B_M_scan = true := by decide +kernel
abbrev C_M_scan : fkC := [(0, [true, false, false]), (78, [true, false, false]), (163, [true, false, false]), (272, [true, true, false]), (298, [true, true, false]), (323, [true, true, true]), (341, [true, false, true])]
set_option maxRecDepth 100000 in
set_option maxHeartbeats 4000000 in
theorem S_M_scan {d : Nat}  {σ : fkS} {Q : Option Value → fkS → Prop} 
  (h : (Ci d 326 [.ref 103, .int (σ.1 103 80)] σ (fun x2 σ1 =>
  ((x2 = (32 : Int32) →
    Wq 325 (d + 1) 0 [some (.ref 103), none, none] [] (sI σ1 103 80 ((σ1.1 103 80) + (1 : Int32))) Q) ∧
   (¬ x2 = (32 : Int32) →
    (Ci d 326 [.ref 103, .int (σ1.1 103 80)] σ1 (fun x4 σ3 =>
    ((¬ x4 = (10 : Int32) →
      (Ci d 326 [.ref 103, .int (σ3.1 103 80)] (sL (sI σ3 103 83 (σ3.1 103 80)) 103 85 (0 : Int64)) (fun x6 σ5 =>
      ((0 ≤ x6 →
        (Ci d 327 [.int x6] σ5 (fun x8 σ7 =>
        ((x8 = 0 →
          (Ci d 328 [.int x6] σ7 (fun x10 σ9 =>
          ((x10 = 0 →
            ((¬ x6 = (61 : Int32) →
              Wq 325 (d + 1) 272 [some (.ref 103), some (.int x6), none] [] σ9 Q) ∧
             (x6 = (61 : Int32) →
              (Ci d 326 [.ref 103, .int ((σ9.1 103 80) + (1 : Int32))] σ9 (fun x12 σ11 =>
              ((x12 = (61 : Int32) →
                Wq 325 (d + 1) 298 [some (.ref 103), some (.int x6), none] [.int (1 : Int32)] σ11 Q) ∧
               (¬ x12 = (61 : Int32) →
                Wq 325 (d + 1) 272 [some (.ref 103), some (.int x6), none] [] σ11 Q))))))) ∧
           (¬ x10 = 0 →
            Wq 325 (d + 1) 163 [some (.ref 103), none, none] [] (sI σ9 103 82 (2 : Int32)) Q))))) ∧
         (¬ x8 = 0 →
          Wq 325 (d + 1) 78 [some (.ref 103), none, none] [] σ7 Q))))) ∧
       (¬ 0 ≤ x6 →
        Q none (sI σ5 103 82 (0 : Int32))))))) ∧
     (x4 = (10 : Int32) →
      Wq 325 (d + 1) 0 [some (.ref 103), none, none] [] (sI σ3 103 80 ((σ3.1 103 80) + (1 : Int32))) Q))))))))) :
  Cl (d + 1) 325 [.ref 103] σ Q := by
  exact Cl.run B_M_scan C_M_scan 46 fk_q325 ok_M_scan rfl h
set_option maxRecDepth 100000 in
set_option maxHeartbeats 4000000 in
theorem S_M_scan_0 {d : Nat}  {σ : fkS} {Q : Option Value → fkS → Prop} 
  (h : (Ci d 326 [.ref 103, .int (σ.1 103 80)] σ (fun x2 σ1 =>
  ((x2 = (32 : Int32) →
    Wq 325 (d + 1) 0 [some (.ref 103), none, none] [] (sI σ1 103 80 ((σ1.1 103 80) + (1 : Int32))) Q) ∧
   (¬ x2 = (32 : Int32) →
    (Ci d 326 [.ref 103, .int (σ1.1 103 80)] σ1 (fun x4 σ3 =>
    ((¬ x4 = (10 : Int32) →
      (Ci d 326 [.ref 103, .int (σ3.1 103 80)] (sL (sI σ3 103 83 (σ3.1 103 80)) 103 85 (0 : Int64)) (fun x6 σ5 =>
      ((0 ≤ x6 →
        (Ci d 327 [.int x6] σ5 (fun x8 σ7 =>
        ((x8 = 0 →
          (Ci d 328 [.int x6] σ7 (fun x10 σ9 =>
          ((x10 = 0 →
            ((¬ x6 = (61 : Int32) →
              Wq 325 (d + 1) 272 [some (.ref 103), some (.int x6), none] [] σ9 Q) ∧
             (x6 = (61 : Int32) →
              (Ci d 326 [.ref 103, .int ((σ9.1 103 80) + (1 : Int32))] σ9 (fun x12 σ11 =>
              ((x12 = (61 : Int32) →
                Wq 325 (d + 1) 298 [some (.ref 103), some (.int x6), none] [.int (1 : Int32)] σ11 Q) ∧
               (¬ x12 = (61 : Int32) →
                Wq 325 (d + 1) 272 [some (.ref 103), some (.int x6), none] [] σ11 Q))))))) ∧
           (¬ x10 = 0 →
            Wq 325 (d + 1) 163 [some (.ref 103), none, none] [] (sI σ9 103 82 (2 : Int32)) Q))))) ∧
         (¬ x8 = 0 →
          Wq 325 (d + 1) 78 [some (.ref 103), none, none] [] σ7 Q))))) ∧
       (¬ 0 ≤ x6 →
        Q none (sI σ5 103 82 (0 : Int32))))))) ∧
     (x4 = (10 : Int32) →
      Wq 325 (d + 1) 0 [some (.ref 103), none, none] [] (sI σ3 103 80 ((σ3.1 103 80) + (1 : Int32))) Q))))))))) :
  Wq 325 (d + 1) 0 [some (.ref 103), none, none] [] σ Q := by
  exact fk_run_sound (B := B_M_scan) (C := C_M_scan) (n := 46) ok_M_scan h
set_option maxRecDepth 100000 in
set_option maxHeartbeats 4000000 in
theorem S_M_scan_78 {d : Nat}  {σ : fkS} {Q : Option Value → fkS → Prop} 
  (h : (Ci d 326 [.ref 103, .int (σ.1 103 80)] σ (fun x2 σ1 =>
  (Ci d 327 [.int x2] σ1 (fun x4 σ3 =>
  ((¬ x4 = 0 →
    Wq 325 (d + 1) 78 [some (.ref 103), none, none] [] (sI σ3 103 80 ((σ3.1 103 80) + (1 : Int32))) Q) ∧
   (x4 = 0 →
    (Ci d 326 [.ref 103, .int (σ3.1 103 80)] σ3 (fun x6 σ5 =>
    (Ci d 328 [.int x6] σ5 (fun x8 σ7 =>
    ((x8 = 0 →
      ((((σ7.1 103 80) - (σ7.1 103 83)) ≤ (10 : Int32) →
        Q none (sI (sI σ7 103 84 ((σ7.1 103 80) - (σ7.1 103 83))) 103 82 (1 : Int32))) ∧
       (¬ ((σ7.1 103 80) - (σ7.1 103 83)) ≤ (10 : Int32) →
        Q none (sI (sI σ7 103 84 ((σ7.1 103 80) - (σ7.1 103 83))) 103 82 (-1 : Int32))))) ∧
     (¬ x8 = 0 →
      Wq 325 (d + 1) 78 [some (.ref 103), none, none] [] (sI σ7 103 80 ((σ7.1 103 80) + (1 : Int32))) Q))))))))))))) :
  Wq 325 (d + 1) 78 [some (.ref 103), none, none] [] σ Q := by
  exact fk_run_sound (B := B_M_scan) (C := C_M_scan) (n := 46) ok_M_scan h
set_option maxRecDepth 100000 in
set_option maxHeartbeats 4000000 in
theorem S_M_scan_163 {d : Nat}  {σ : fkS} {Q : Option Value → fkS → Prop} 
  (h : (Ci d 326 [.ref 103, .int (σ.1 103 80)] σ (fun x2 σ1 =>
  (Ci d 328 [.int x2] σ1 (fun x4 σ3 =>
  ((x4 = 0 →
    (((lg_cmp (σ3.2.1 103 85) (2147483647 : Int64)) ≤ 0 →
      Q none σ3) ∧
     (¬ (lg_cmp (σ3.2.1 103 85) (2147483647 : Int64)) ≤ 0 →
      Q none (sI σ3 103 82 (-1 : Int32))))) ∧
   (¬ x4 = 0 →
    (((lg_cmp (σ3.2.1 103 85) (2147483647 : Int64)) ≤ 0 →
      (Ci d 326 [.ref 103, .int (σ3.1 103 80)] σ3 (fun x6 σ5 =>
      Wq 325 (d + 1) 163 [some (.ref 103), none, none] [] (sI (sL σ5 103 85 ((((10 : Int64) * (σ3.2.1 103 85)) + x6.toInt64) - (48 : Int64))) 103 80 ((σ5.1 103 80) + (1 : Int32))) Q))) ∧
     (¬ (lg_cmp (σ3.2.1 103 85) (2147483647 : Int64)) ≤ 0 →
      Wq 325 (d + 1) 163 [some (.ref 103), none, none] [] (sI (sL σ3 103 85 (σ3.2.1 103 85)) 103 80 ((σ3.1 103 80) + (1 : Int32))) Q))))))))) :
  Wq 325 (d + 1) 163 [some (.ref 103), none, none] [] σ Q := by
  exact fk_run_sound (B := B_M_scan) (C := C_M_scan) (n := 46) ok_M_scan h
set_option maxRecDepth 100000 in
set_option maxHeartbeats 4000000 in
theorem S_M_scan_272 {d : Nat} {v1 : Int32} {σ : fkS} {Q : Option Value → fkS → Prop} 
  (h : ((¬ v1 = (45 : Int32) →
    Wq 325 (d + 1) 298 [some (.ref 103), some (.int v1), none] [.int (0 : Int32)] σ Q) ∧
   (v1 = (45 : Int32) →
    (Ci d 326 [.ref 103, .int ((σ.1 103 80) + (1 : Int32))] σ (fun x2 σ1 =>
    ((¬ x2 = (62 : Int32) →
      Wq 325 (d + 1) 298 [some (.ref 103), some (.int v1), none] [.int (0 : Int32)] σ1 Q) ∧
     (x2 = (62 : Int32) →
      Wq 325 (d + 1) 298 [some (.ref 103), some (.int v1), none] [.int (1 : Int32)] σ1 Q))))))) :
  Wq 325 (d + 1) 272 [some (.ref 103), some (.int v1), none] [] σ Q := by
  exact fk_run_sound (B := B_M_scan) (C := C_M_scan) (n := 46) ok_M_scan h
set_option maxRecDepth 100000 in
set_option maxHeartbeats 4000000 in
theorem S_M_scan_298 {d : Nat} {v1 : Int32} {s0 : Int32} {σ : fkS} {Q : Option Value → fkS → Prop} 
  (h : ((s0 = 0 →
    Wq 325 (d + 1) 323 [some (.ref 103), some (.int v1), some (.int s0)] [.long v1.toInt64, .ref 103] σ Q) ∧
   (¬ s0 = 0 →
    ((¬ v1 = (61 : Int32) →
      Wq 325 (d + 1) 323 [some (.ref 103), some (.int v1), some (.int s0)] [.long ((65 : Int32).toInt64), .ref 103] σ Q) ∧
     (v1 = (61 : Int32) →
      Wq 325 (d + 1) 323 [some (.ref 103), some (.int v1), some (.int s0)] [.long ((69 : Int32).toInt64), .ref 103] σ Q))))) :
  Wq 325 (d + 1) 298 [some (.ref 103), some (.int v1), none] [.int s0] σ Q := by
  exact fk_run_sound (B := B_M_scan) (C := C_M_scan) (n := 46) ok_M_scan h
set_option maxRecDepth 100000 in
set_option maxHeartbeats 4000000 in
theorem S_M_scan_323 {d : Nat} {v1 : Int32} {v2 : Int32} {s1 : Int64} {σ : fkS} {Q : Option Value → fkS → Prop} 
  (h : ((¬ v2 = 0 →
    Wq 325 (d + 1) 341 [some (.ref 103), none, some (.int v2)] [.ref 103] (sL σ 103 85 s1) Q) ∧
   (v2 = 0 →
    (fk_rg 2002 2000 (Ci d 166 [.ref 2002, .int v1] (sL σ 103 85 s1) (fun x2 σ1 =>
    ((x2 < 0 →
      ((v2 = 0 →
        Q none (sI (sI σ1 103 82 (-1 : Int32)) 103 80 ((σ1.1 103 80) + (1 : Int32)))) ∧
       (¬ v2 = 0 →
        Q none (sI (sI σ1 103 82 (-1 : Int32)) 103 80 ((σ1.1 103 80) + (2 : Int32)))))) ∧
     (¬ x2 < 0 →
      Wq 325 (d + 1) 341 [some (.ref 103), none, some (.int v2)] [.ref 103] σ1 Q)))))))) :
  Wq 325 (d + 1) 323 [some (.ref 103), some (.int v1), some (.int v2)] [.long s1, .ref 103] σ Q := by
  exact fk_run_sound (B := B_M_scan) (C := C_M_scan) (n := 46) ok_M_scan h
set_option maxRecDepth 100000 in
set_option maxHeartbeats 4000000 in
theorem S_M_scan_341 {d : Nat} {v2 : Int32} {σ : fkS} {Q : Option Value → fkS → Prop} 
  (h : ((v2 = 0 →
    Q none (sI (sI σ 103 82 (3 : Int32)) 103 80 ((σ.1 103 80) + (1 : Int32)))) ∧
   (¬ v2 = 0 →
    Q none (sI (sI σ 103 82 (3 : Int32)) 103 80 ((σ.1 103 80) + (2 : Int32)))))) :
  Wq 325 (d + 1) 341 [some (.ref 103), none, some (.int v2)] [.ref 103] σ Q := by
  exact fk_run_sound (B := B_M_scan) (C := C_M_scan) (n := 46) ok_M_scan h
def B_M_definition : fkB := [(0, [(.aload_n 0, 1, []), (.ldc_w 713, 3, [3, 0, 0, 0, 0, 0, 1]), (.invokevirtual 715, 3, [330, 1, 2684, 0, 0, 12]), (.aload_n 0, 1, []), (.getfield 670, 3, [12, 81, 1958, 0]), (.ifCond .lt 4, 3, [15])]),
  (14, [(.return_, 1, [])]),
  (15, [(.aload_n 0, 1, []), (.getfield 719, 3, [12, 97, 1974, 0]), (.istore_n 1, 1, []), (.aload_n 0, 1, []), (.dup, 1, []), (.getfield 719, 3, [12, 97, 1974, 0]), (.iconst 1, 1, []), (.iadd, 1, []), (.putfield 719, 3, [12, 97, 1974, 0]), (.aload_n 0, 1, []), (.invokevirtual 722, 3, [333, 0, 2698, 0, 0, 12]), (.aload_n 0, 1, []), (.getfield 171, 3, [12, 88, 1965, 0]), (.iload_n 1, 1, []), (.aload_n 0, 1, []), (.getfield 695, 3, [12, 86, 1963, 0]), (.iastore, 1, []), (.aload_n 0, 1, []), (.getfield 174, 3, [12, 89, 1966, 0]), (.iload_n 1, 1, []), (.aload_n 0, 1, []), (.getfield 698, 3, [12, 87, 1964, 0]), (.iastore, 1, []), (.aload_n 0, 1, []), (.bipush 40, 2, []), (.invokevirtual 725, 3, [335, 1, 2707, 0, 0, 12]), (.aload_n 0, 1, []), (.getfield 177, 3, [12, 90, 1967, 0]), (.iload_n 1, 1, []), (.iconst 0, 1, []), (.iastore, 1, []), (.iconst 1, 1, []), (.istore_n 2, 1, [])]),
  (69, [(.iload_n 2, 1, []), (.ifCond .eq 107, 3, [177])]),
  (73, [(.aload_n 0, 1, []), (.getfield 670, 3, [12, 81, 1958, 0]), (.ifCond .ge 100, 3, [177])]),
  (80, [(.aload_n 0, 1, []), (.invokevirtual 722, 3, [333, 0, 2698, 0, 0, 12]), (.iconst 4, 1, []), (.iload_n 1, 1, []), (.imul, 1, []), (.aload_n 0, 1, []), (.getfield 177, 3, [12, 90, 1967, 0]), (.iload_n 1, 1, []), (.iaload, 1, []), (.iadd, 1, []), (.istore_n 3, 1, []), (.aload_n 0, 1, []), (.getfield 189, 3, [12, 94, 1971, 0]), (.iload_n 3, 1, []), (.aload_n 0, 1, []), (.getfield 695, 3, [12, 86, 1963, 0]), (.iastore, 1, []), (.aload_n 0, 1, []), (.getfield 192, 3, [12, 95, 1972, 0]), (.iload_n 3, 1, []), (.aload_n 0, 1, []), (.getfield 698, 3, [12, 87, 1964, 0]), (.iastore, 1, []), (.aload_n 0, 1, []), (.bipush 58, 2, []), (.invokevirtual 725, 3, [335, 1, 2707, 0, 0, 12]), (.aload_n 0, 1, []), (.getfield 195, 3, [12, 96, 1973, 0]), (.iload_n 3, 1, []), (.aload_n 0, 1, []), (.invokevirtual 728, 3, [337, 0, 2715, 0, 1, 12]), (.iastore, 1, []), (.aload_n 0, 1, []), (.getfield 177, 3, [12, 90, 1967, 0]), (.iload_n 1, 1, []), (.dup2, 1, []), (.iaload, 1, []), (.iconst 1, 1, []), (.iadd, 1, []), (.iastore, 1, []), (.aload_n 0, 1, []), (.bipush 44, 2, []), (.invokevirtual 673, 3, [336, 1, 2711, 0, 1, 12]), (.ifCond .eq 17, 3, [164])]),
  (150, [(.aload_n 0, 1, []), (.getfield 177, 3, [12, 90, 1967, 0]), (.iload_n 1, 1, []), (.iaload, 1, []), (.iconst 4, 1, []), (.if_icmp .ge 7, 3, [164])]),
  (160, [(.iconst 1, 1, []), (.goto 4, 3, [165])]),
  (164, [(.iconst 0, 1, [])]),
  (165, [(.istore_n 2, 1, []), (.iload_n 2, 1, []), (.ifCond .eq 7, 3, [174])]),
  (170, [(.aload_n 0, 1, []), (.invokevirtual 676, 3, [325, 0, 2660, 0, 0, 12])]),
  (174, [(.goto (-105), 3, [69])]),
  (177, [(.aload_n 0, 1, []), (.bipush 41, 2, []), (.invokevirtual 725, 3, [335, 1, 2707, 0, 0, 12]), (.aload_n 0, 1, []), (.bipush 58, 2, []), (.invokevirtual 725, 3, [335, 1, 2707, 0, 0, 12]), (.aload_n 0, 1, []), (.getfield 180, 3, [12, 91, 1968, 0]), (.iload_n 1, 1, []), (.aload_n 0, 1, []), (.invokevirtual 728, 3, [337, 0, 2715, 0, 1, 12]), (.iastore, 1, []), (.aload_n 0, 1, []), (.bipush 61, 2, []), (.invokevirtual 725, 3, [335, 1, 2707, 0, 0, 12]), (.aload_n 0, 1, []), (.getfield 186, 3, [12, 93, 1970, 0]), (.iload_n 1, 1, []), (.aload_n 0, 1, []), (.getfield 639, 3, [12, 83, 1960, 0]), (.iastore, 1, []), (.aload_n 0, 1, []), (.getfield 183, 3, [12, 92, 1969, 0]), (.iload_n 1, 1, []), (.aload_n 0, 1, []), (.invokevirtual 731, 3, [338, 0, 2722, 0, 1, 12]), (.iastore, 1, []), (.aload_n 0, 1, []), (.bipush 59, 2, []), (.invokevirtual 725, 3, [335, 1, 2707, 0, 0, 12]), (.return_, 1, [])])]
set_option maxRecDepth 100000 in
theorem ok_M_definition : fk_okM 329 B_M_definition = true := by decide +kernel
abbrev C_M_definition : fkC := [(69, [true, true, true, false]), (177, [true, true, false, false])]
set_option maxRecDepth 100000 in
set_option maxHeartbeats 4000000 in
theorem S_M_definition {d : Nat}  {σ : fkS} {Q : Option Value → fkS → Prop} 
  (h : (Cv d 330 [.ref 103, .ref 2003] σ (fun σ1 =>
  (((σ1.1 103 81) < 0 →
    (Cv d 333 [.ref 103] (sI σ1 103 97 ((σ1.1 103 97) + (1 : Int32))) (fun σ2 =>
    (vp_in (σ1.1 103 97) 20 ∧
    (vp_in (σ1.1 103 97) 20 ∧
    (Cv d 335 [.ref 103, .int (40 : Int32)] (sI (sI σ2 155 ((σ1.1 103 97).toNatClampNeg) (σ2.1 103 86)) 156 ((σ1.1 103 97).toNatClampNeg) (σ2.1 103 87)) (fun σ3 =>
    (vp_in (σ1.1 103 97) 20 ∧
    Wq 329 (d + 1) 69 [some (.ref 103), some (.int (σ1.1 103 97)), some (.int (1 : Int32)), none] [] (sI σ3 157 ((σ1.1 103 97).toNatClampNeg) (0 : Int32)) Q)))))))) ∧
   (¬ (σ1.1 103 81) < 0 →
    Q none σ1))))) :
  Cl (d + 1) 329 [.ref 103] σ Q := by
  exact Cl.run B_M_definition C_M_definition 16 fk_q329 ok_M_definition rfl h
set_option maxRecDepth 100000 in
set_option maxHeartbeats 4000000 in
theorem S_M_definition_69 {d : Nat} {v1 : Int32} {v2 : Int32} {σ : fkS} {Q : Option Value → fkS → Prop} 
  (h : ((v2 = 0 →
    Wq 329 (d + 1) 177 [some (.ref 103), some (.int v1), none, none] [] σ Q) ∧
   (¬ v2 = 0 →
    ((0 ≤ (σ.1 103 81) →
      Wq 329 (d + 1) 177 [some (.ref 103), some (.int v1), none, none] [] σ Q) ∧
     (¬ 0 ≤ (σ.1 103 81) →
      (Cv d 333 [.ref 103] σ (fun σ1 =>
      (vp_in v1 20 ∧
      (vp_in (((4 : Int32) * v1) + (σ1.1 157 v1.toNatClampNeg)) 80 ∧
      (vp_in (((4 : Int32) * v1) + (σ1.1 157 v1.toNatClampNeg)) 80 ∧
      (Cv d 335 [.ref 103, .int (58 : Int32)] (sI (sI σ1 161 ((((4 : Int32) * v1) + (σ1.1 157 v1.toNatClampNeg)).toNatClampNeg) (σ1.1 103 86)) 162 ((((4 : Int32) * v1) + (σ1.1 157 v1.toNatClampNeg)).toNatClampNeg) (σ1.1 103 87)) (fun σ2 =>
      (Ci d 337 [.ref 103] σ2 (fun x4 σ3 =>
      (vp_in (((4 : Int32) * v1) + (σ1.1 157 v1.toNatClampNeg)) 80 ∧
      (vp_in v1 20 ∧
      (vp_in v1 20 ∧
      (Ci d 336 [.ref 103, .int (44 : Int32)] (sI (sI σ3 163 ((((4 : Int32) * v1) + (σ1.1 157 v1.toNatClampNeg)).toNatClampNeg) x4) 157 v1.toNatClampNeg ((σ3.1 157 v1.toNatClampNeg) + (1 : Int32))) (fun x6 σ5 =>
      ((x6 = 0 →
        (((0 : Int32) = 0 →
          Wq 329 (d + 1) 69 [some (.ref 103), some (.int v1), some (.int (0 : Int32)), none] [] σ5 Q) ∧
         (¬ (0 : Int32) = 0 →
          (Cv d 325 [.ref 103] σ5 (fun σ7 =>
          Wq 329 (d + 1) 69 [some (.ref 103), some (.int v1), some (.int (0 : Int32)), none] [] σ7 Q))))) ∧
       (¬ x6 = 0 →
        (vp_in v1 20 ∧
        (((4 : Int32) ≤ (σ5.1 157 v1.toNatClampNeg) →
          (((0 : Int32) = 0 →
            Wq 329 (d + 1) 69 [some (.ref 103), some (.int v1), some (.int (0 : Int32)), none] [] σ5 Q) ∧
           (¬ (0 : Int32) = 0 →
            (Cv d 325 [.ref 103] σ5 (fun σ8 =>
            Wq 329 (d + 1) 69 [some (.ref 103), some (.int v1), some (.int (0 : Int32)), none] [] σ8 Q))))) ∧
         (¬ (4 : Int32) ≤ (σ5.1 157 v1.toNatClampNeg) →
          (((1 : Int32) = 0 →
            Wq 329 (d + 1) 69 [some (.ref 103), some (.int v1), some (.int (1 : Int32)), none] [] σ5 Q) ∧
           (¬ (1 : Int32) = 0 →
            (Cv d 325 [.ref 103] σ5 (fun σ9 =>
            Wq 329 (d + 1) 69 [some (.ref 103), some (.int v1), some (.int (1 : Int32)), none] [] σ9 Q)))))))))))))))))))))))))))) :
  Wq 329 (d + 1) 69 [some (.ref 103), some (.int v1), some (.int v2), none] [] σ Q := by
  exact fk_run_sound (B := B_M_definition) (C := C_M_definition) (n := 16) ok_M_definition h
set_option maxRecDepth 100000 in
set_option maxHeartbeats 4000000 in
theorem S_M_definition_177 {d : Nat} {v1 : Int32} {σ : fkS} {Q : Option Value → fkS → Prop} 
  (h : (Cv d 335 [.ref 103, .int (41 : Int32)] σ (fun σ1 =>
  (Cv d 335 [.ref 103, .int (58 : Int32)] σ1 (fun σ2 =>
  (Ci d 337 [.ref 103] σ2 (fun x4 σ3 =>
  (vp_in v1 20 ∧
  (Cv d 335 [.ref 103, .int (61 : Int32)] (sI σ3 158 v1.toNatClampNeg x4) (fun σ5 =>
  (vp_in v1 20 ∧
  (Ci d 338 [.ref 103] (sI σ5 160 v1.toNatClampNeg (σ5.1 103 83)) (fun x7 σ6 =>
  (vp_in v1 20 ∧
  (Cv d 335 [.ref 103, .int (59 : Int32)] (sI σ6 159 v1.toNatClampNeg x7) (fun σ8 =>
  Q none σ8)))))))))))))))) :
  Wq 329 (d + 1) 177 [some (.ref 103), some (.int v1), none, none] [] σ Q := by
  exact fk_run_sound (B := B_M_definition) (C := C_M_definition) (n := 16) ok_M_definition h
def B_M_word : fkB := [(0, [(.aload_n 0, 1, []), (.aload_n 1, 1, []), (.invokevirtual 689, 3, [331, 1, 2688, 0, 1, 12]), (.ifCond .eq 10, 3, [15])]),
  (8, [(.aload_n 0, 1, []), (.invokevirtual 676, 3, [325, 0, 2660, 0, 0, 12]), (.goto 11, 3, [23])]),
  (15, [(.aload_n 0, 1, []), (.aload_n 0, 1, []), (.getfield 639, 3, [12, 83, 1960, 0]), (.invokevirtual 679, 3, [332, 1, 2694, 0, 0, 12])]),
  (23, [(.return_, 1, [])])]
set_option maxRecDepth 100000 in
theorem ok_M_word : fk_okM 330 B_M_word = true := by decide +kernel
abbrev C_M_word : fkC := []
set_option maxRecDepth 100000 in
set_option maxHeartbeats 4000000 in
theorem S_M_word {d : Nat} {c1 : Nat} {σ : fkS} {Q : Option Value → fkS → Prop} 
  (h : (Ci d 331 [.ref 103, .ref c1] σ (fun x2 σ1 =>
  ((x2 = 0 →
    (Cv d 332 [.ref 103, .int (σ1.1 103 83)] σ1 (fun σ3 =>
    Q none σ3))) ∧
   (¬ x2 = 0 →
    (Cv d 325 [.ref 103] σ1 (fun σ4 =>
    Q none σ4))))))) :
  Cl (d + 1) 330 [.ref 103, .ref c1] σ Q := by
  exact Cl.run B_M_word C_M_word 7 fk_q330 ok_M_word rfl h
def B_M_isWord : fkB := [(0, [(.aload_n 0, 1, []), (.getfield 670, 3, [12, 81, 1958, 0]), (.ifCond .ge 26, 3, [30])]),
  (7, [(.aload_n 0, 1, []), (.getfield 645, 3, [12, 82, 1959, 0]), (.iconst 1, 1, []), (.if_icmp .ne 18, 3, [30])]),
  (15, [(.aload_n 0, 1, []), (.getfield 654, 3, [12, 84, 1961, 0]), (.aload_n 1, 1, []), (.invokevirtual 682, 3, [152, 0, 2692, 0, 1, 0, 8]), (.if_icmp .ne 7, 3, [30])]),
  (26, [(.iconst 1, 1, []), (.goto 4, 3, [31])]),
  (30, [(.iconst 0, 1, [])]),
  (31, [(.istore_n 2, 1, []), (.iconst 0, 1, []), (.istore_n 3, 1, [])]),
  (34, [(.iload_n 3, 1, []), (.aload_n 1, 1, []), (.invokevirtual 682, 3, [152, 0, 2692, 0, 1, 0, 8]), (.if_icmp .ge 38, 3, [77])]),
  (42, [(.iload_n 2, 1, []), (.ifCond .eq 34, 3, [77])]),
  (46, [(.aload_n 0, 1, []), (.getfield 168, 3, [12, 78, 1955, 0]), (.aload_n 0, 1, []), (.getfield 639, 3, [12, 83, 1960, 0]), (.iload_n 3, 1, []), (.iadd, 1, []), (.iaload, 1, []), (.aload_n 1, 1, []), (.iload_n 3, 1, []), (.invokevirtual 685, 3, [155, 1, 2693, 0, 1, 0, 8]), (.if_icmp .ne 7, 3, [69])]),
  (65, [(.iconst 1, 1, []), (.goto 4, 3, [70])]),
  (69, [(.iconst 0, 1, [])]),
  (70, [(.istore_n 2, 1, []), (.iinc 3 1, 3, []), (.goto (-40), 3, [34])]),
  (77, [(.iload_n 2, 1, []), (.ireturn, 1, [])])]
set_option maxRecDepth 100000 in
theorem ok_M_isWord : fk_okM 331 B_M_isWord = true := by decide +kernel
abbrev C_M_isWord : fkC := [(34, [true, true, true, true])]
set_option maxRecDepth 100000 in
set_option maxHeartbeats 4000000 in
theorem S_M_isWord {d : Nat} {c1 : Nat} {σ : fkS} {Q : Option Value → fkS → Prop} 
  (h : ((0 ≤ (σ.1 103 81) →
    Wq 331 (d + 1) 34 [some (.ref 103), some (.ref c1), some (.int (0 : Int32)), some (.int (0 : Int32))] [] σ Q) ∧
   (¬ 0 ≤ (σ.1 103 81) →
    ((¬ (σ.1 103 82) = (1 : Int32) →
      Wq 331 (d + 1) 34 [some (.ref 103), some (.ref c1), some (.int (0 : Int32)), some (.int (0 : Int32))] [] σ Q) ∧
     ((σ.1 103 82) = (1 : Int32) →
      (fk_rg c1 2000 (Ci d 152 [.ref c1] σ (fun x2 σ1 =>
      ((¬ (σ.1 103 84) = x2 →
        Wq 331 (d + 1) 34 [some (.ref 103), some (.ref c1), some (.int (0 : Int32)), some (.int (0 : Int32))] [] σ1 Q) ∧
       ((σ.1 103 84) = x2 →
        Wq 331 (d + 1) 34 [some (.ref 103), some (.ref c1), some (.int (1 : Int32)), some (.int (0 : Int32))] [] σ1 Q)))))))))) :
  Cl (d + 1) 331 [.ref 103, .ref c1] σ Q := by
  exact Cl.run B_M_isWord C_M_isWord 16 fk_q331 ok_M_isWord rfl h
set_option maxRecDepth 100000 in
set_option maxHeartbeats 4000000 in
theorem S_M_isWord_34 {d : Nat} {c1 : Nat} {v2 : Int32} {v3 : Int32} {σ : fkS} {Q : Option Value → fkS → Prop} 
  (h : (fk_rg c1 2000 (Ci d 152 [.ref c1] σ (fun x2 σ1 =>
  ((x2 ≤ v3 →
    fk_bz v2 (Q (some (.int v2)) σ1)) ∧
   (¬ x2 ≤ v3 →
    ((v2 = 0 →
      fk_bz v2 (Q (some (.int v2)) σ1)) ∧
     (¬ v2 = 0 →
      (vp_in ((σ1.1 103 83) + v3) 4000 ∧
      (fk_rg c1 2000 (Ci d 155 [.ref c1, .int v3] σ1 (fun x4 σ3 =>
      ((¬ (σ1.1 154 (((σ1.1 103 83) + v3).toNatClampNeg)) = x4 →
        Wq 331 (d + 1) 34 [some (.ref 103), some (.ref c1), some (.int (0 : Int32)), some (.int (v3 + (1 : Int32)))] [] σ3 Q) ∧
       ((σ1.1 154 (((σ1.1 103 83) + v3).toNatClampNeg)) = x4 →
        Wq 331 (d + 1) 34 [some (.ref 103), some (.ref c1), some (.int (1 : Int32)), some (.int (v3 + (1 : Int32)))] [] σ3 Q)))))))))))))) :
  Wq 331 (d + 1) 34 [some (.ref 103), some (.ref c1), some (.int v2), some (.int v3)] [] σ Q := by
  exact fk_run_sound (B := B_M_isWord) (C := C_M_isWord) (n := 16) ok_M_isWord h
def B_M_isName : fkB := [(0, [(.aload_n 0, 1, []), (.getfield 670, 3, [12, 81, 1958, 0]), (.ifCond .ge 11, 3, [15])]),
  (7, [(.aload_n 0, 1, []), (.getfield 645, 3, [12, 82, 1959, 0]), (.iconst 1, 1, []), (.if_icmp .eq 5, 3, [17])]),
  (15, [(.iconst 0, 1, []), (.ireturn, 1, [])]),
  (17, [(.iconst 0, 1, []), (.istore_n 1, 1, [])]),
  (19, [(.iload_n 1, 1, []), (.ldc_w 693, 3, [4, 0, 0, 0, 0, 0, 1]), (.invokevirtual 682, 3, [152, 0, 2692, 0, 1, 0, 8]), (.if_icmp .ge 105, 3, [131])]),
  (29, [(.iload_n 1, 1, []), (.istore_n 2, 1, [])]),
  (31, [(.ldc_w 693, 3, [4, 0, 0, 0, 0, 0, 1]), (.iload_n 2, 1, []), (.invokevirtual 685, 3, [155, 1, 2693, 0, 1, 0, 8]), (.bipush 32, 2, []), (.if_icmp .eq 9, 3, [49])]),
  (43, [(.iinc 2 1, 3, []), (.goto (-15), 3, [31])]),
  (49, [(.iload_n 2, 1, []), (.iload_n 1, 1, []), (.isub, 1, []), (.aload_n 0, 1, []), (.getfield 654, 3, [12, 84, 1961, 0]), (.if_icmp .ne 7, 3, [63])]),
  (59, [(.iconst 1, 1, []), (.goto 4, 3, [64])]),
  (63, [(.iconst 0, 1, [])]),
  (64, [(.istore_n 3, 1, []), (.iconst 0, 1, []), (.istore 4, 2, [])]),
  (68, [(.iload 4, 2, []), (.aload_n 0, 1, []), (.getfield 654, 3, [12, 84, 1961, 0]), (.if_icmp .ge 44, 3, [118])]),
  (77, [(.iload_n 3, 1, []), (.ifCond .eq 40, 3, [118])]),
  (81, [(.ldc_w 693, 3, [4, 0, 0, 0, 0, 0, 1]), (.iload_n 1, 1, []), (.iload 4, 2, []), (.iadd, 1, []), (.invokevirtual 685, 3, [155, 1, 2693, 0, 1, 0, 8]), (.aload_n 0, 1, []), (.getfield 168, 3, [12, 78, 1955, 0]), (.aload_n 0, 1, []), (.getfield 639, 3, [12, 83, 1960, 0]), (.iload 4, 2, []), (.iadd, 1, []), (.iaload, 1, []), (.if_icmp .ne 7, 3, [110])]),
  (106, [(.iconst 1, 1, []), (.goto 4, 3, [111])]),
  (110, [(.iconst 0, 1, [])]),
  (111, [(.istore_n 3, 1, []), (.iinc 4 1, 3, []), (.goto (-47), 3, [68])]),
  (118, [(.iload_n 3, 1, []), (.ifCond .eq 5, 3, [124])]),
  (122, [(.iconst 0, 1, []), (.ireturn, 1, [])]),
  (124, [(.iload_n 2, 1, []), (.iconst 1, 1, []), (.iadd, 1, []), (.istore_n 1, 1, []), (.goto (-109), 3, [19])]),
  (131, [(.iconst 1, 1, []), (.ireturn, 1, [])])]
set_option maxRecDepth 100000 in
theorem ok_M_isName : fk_okM 334 B_M_isName = true := by decide +kernel
abbrev C_M_isName : fkC := [(19, [true, true, false, false, false]), (31, [true, true, true, false, false]), (68, [true, true, true, true, true])]
set_option maxRecDepth 100000 in
set_option maxHeartbeats 4000000 in
theorem S_M_isName {d : Nat}  {σ : fkS} {Q : Option Value → fkS → Prop} 
  (h : ((0 ≤ (σ.1 103 81) →
    Q (some (.int (0 : Int32))) σ) ∧
   (¬ 0 ≤ (σ.1 103 81) →
    (((σ.1 103 82) = (1 : Int32) →
      Wq 334 (d + 1) 19 [some (.ref 103), some (.int (0 : Int32)), none, none, none] [] σ Q) ∧
     (¬ (σ.1 103 82) = (1 : Int32) →
      Q (some (.int (0 : Int32))) σ))))) :
  Cl (d + 1) 334 [.ref 103] σ Q := by
  exact Cl.run B_M_isName C_M_isName 25 fk_q334 ok_M_isName rfl h
set_option maxRecDepth 100000 in
set_option maxHeartbeats 4000000 in
theorem S_M_isName_19 {d : Nat} {v1 : Int32} {σ : fkS} {Q : Option Value → fkS → Prop} 
  (h : (fk_rg 2004 2000 (Ci d 152 [.ref 2004] σ (fun x2 σ1 =>
  ((x2 ≤ v1 →
    Q (some (.int (1 : Int32))) σ1) ∧
   (¬ x2 ≤ v1 →
    Wq 334 (d + 1) 31 [some (.ref 103), some (.int v1), some (.int v1), none, none] [] σ1 Q)))))) :
  Wq 334 (d + 1) 19 [some (.ref 103), some (.int v1), none, none, none] [] σ Q := by
  exact fk_run_sound (B := B_M_isName) (C := C_M_isName) (n := 25) ok_M_isName h
set_option maxRecDepth 100000 in
set_option maxHeartbeats 4000000 in
theorem S_M_isName_31 {d : Nat} {v1 : Int32} {v2 : Int32} {σ : fkS} {Q : Option Value → fkS → Prop} 
  (h : (fk_rg 2004 2000 (Ci d 155 [.ref 2004, .int v2] σ (fun x2 σ1 =>
  ((x2 = (32 : Int32) →
    ((¬ (v2 - v1) = (σ1.1 103 84) →
      Wq 334 (d + 1) 68 [some (.ref 103), some (.int v1), some (.int v2), some (.int (0 : Int32)), some (.int (0 : Int32))] [] σ1 Q) ∧
     ((v2 - v1) = (σ1.1 103 84) →
      Wq 334 (d + 1) 68 [some (.ref 103), some (.int v1), some (.int v2), some (.int (1 : Int32)), some (.int (0 : Int32))] [] σ1 Q))) ∧
   (¬ x2 = (32 : Int32) →
    Wq 334 (d + 1) 31 [some (.ref 103), some (.int v1), some (.int (v2 + (1 : Int32))), none, none] [] σ1 Q)))))) :
  Wq 334 (d + 1) 31 [some (.ref 103), some (.int v1), some (.int v2), none, none] [] σ Q := by
  exact fk_run_sound (B := B_M_isName) (C := C_M_isName) (n := 25) ok_M_isName h
set_option maxRecDepth 100000 in
set_option maxHeartbeats 4000000 in
theorem S_M_isName_68 {d : Nat} {v1 : Int32} {v2 : Int32} {v3 : Int32} {v4 : Int32} {σ : fkS} {Q : Option Value → fkS → Prop} 
  (h : (((σ.1 103 84) ≤ v4 →
    ((v3 = 0 →
      Wq 334 (d + 1) 19 [some (.ref 103), some (.int (v2 + (1 : Int32))), none, none, none] [] σ Q) ∧
     (¬ v3 = 0 →
      Q (some (.int (0 : Int32))) σ))) ∧
   (¬ (σ.1 103 84) ≤ v4 →
    ((v3 = 0 →
      ((v3 = 0 →
        Wq 334 (d + 1) 19 [some (.ref 103), some (.int (v2 + (1 : Int32))), none, none, none] [] σ Q) ∧
       (¬ v3 = 0 →
        Q (some (.int (0 : Int32))) σ))) ∧
     (¬ v3 = 0 →
      (fk_rg 2004 2000 (Ci d 155 [.ref 2004, .int (v1 + v4)] σ (fun x2 σ1 =>
      (vp_in ((σ1.1 103 83) + v4) 4000 ∧
      ((¬ x2 = (σ1.1 154 (((σ1.1 103 83) + v4).toNatClampNeg)) →
        Wq 334 (d + 1) 68 [some (.ref 103), some (.int v1), some (.int v2), some (.int (0 : Int32)), some (.int (v4 + (1 : Int32)))] [] σ1 Q) ∧
       (x2 = (σ1.1 154 (((σ1.1 103 83) + v4).toNatClampNeg)) →
        Wq 334 (d + 1) 68 [some (.ref 103), some (.int v1), some (.int v2), some (.int (1 : Int32)), some (.int (v4 + (1 : Int32)))] [] σ1 Q))))))))))) :
  Wq 334 (d + 1) 68 [some (.ref 103), some (.int v1), some (.int v2), some (.int v3), some (.int v4)] [] σ Q := by
  exact fk_run_sound (B := B_M_isName) (C := C_M_isName) (n := 25) ok_M_isName h
def B_M_typeWord : fkB := [(0, [(.aload_n 0, 1, []), (.ldc_w 704, 3, [5, 0, 0, 0, 0, 0, 1]), (.invokevirtual 689, 3, [331, 1, 2688, 0, 1, 12]), (.ifCond .eq 7, 3, [14])]),
  (10, [(.iconst 1, 1, []), (.goto 32, 3, [43])]),
  (14, [(.aload_n 0, 1, []), (.ldc_w 706, 3, [6, 0, 0, 0, 0, 0, 1]), (.invokevirtual 689, 3, [331, 1, 2688, 0, 1, 12]), (.ifCond .eq 7, 3, [28])]),
  (24, [(.iconst 2, 1, []), (.goto 18, 3, [43])]),
  (28, [(.aload_n 0, 1, []), (.ldc_w 708, 3, [7, 0, 0, 0, 0, 0, 1]), (.invokevirtual 689, 3, [331, 1, 2688, 0, 1, 12]), (.ifCond .eq 7, 3, [42])]),
  (38, [(.iconst 3, 1, []), (.goto 4, 3, [43])]),
  (42, [(.iconst 0, 1, [])]),
  (43, [(.istore_n 1, 1, []), (.iload_n 1, 1, []), (.ifCond .ne 14, 3, [59])]),
  (48, [(.aload_n 0, 1, []), (.aload_n 0, 1, []), (.getfield 639, 3, [12, 83, 1960, 0]), (.invokevirtual 679, 3, [332, 1, 2694, 0, 0, 12]), (.goto 7, 3, [63])]),
  (59, [(.aload_n 0, 1, []), (.invokevirtual 676, 3, [325, 0, 2660, 0, 0, 12])]),
  (63, [(.iload_n 1, 1, []), (.ireturn, 1, [])])]
set_option maxRecDepth 100000 in
theorem ok_M_typeWord : fk_okM 337 B_M_typeWord = true := by decide +kernel
abbrev C_M_typeWord : fkC := []
set_option maxRecDepth 100000 in
set_option maxHeartbeats 4000000 in
theorem S_M_typeWord {d : Nat}  {σ : fkS} {Q : Option Value → fkS → Prop} 
  (h : (Ci d 331 [.ref 103, .ref 2005] σ (fun x2 σ1 =>
  ((x2 = 0 →
    (Ci d 331 [.ref 103, .ref 2006] σ1 (fun x4 σ3 =>
    ((x4 = 0 →
      (Ci d 331 [.ref 103, .ref 2007] σ3 (fun x6 σ5 =>
      ((x6 = 0 →
        ((¬ (0 : Int32) = 0 →
          (Cv d 325 [.ref 103] σ5 (fun σ7 =>
          Q (some (.int (0 : Int32))) σ7))) ∧
         ((0 : Int32) = 0 →
          (Cv d 332 [.ref 103, .int (σ5.1 103 83)] σ5 (fun σ8 =>
          Q (some (.int (0 : Int32))) σ8))))) ∧
       (¬ x6 = 0 →
        ((¬ (3 : Int32) = 0 →
          (Cv d 325 [.ref 103] σ5 (fun σ9 =>
          Q (some (.int (3 : Int32))) σ9))) ∧
         ((3 : Int32) = 0 →
          (Cv d 332 [.ref 103, .int (σ5.1 103 83)] σ5 (fun σ10 =>
          Q (some (.int (3 : Int32))) σ10))))))))) ∧
     (¬ x4 = 0 →
      ((¬ (2 : Int32) = 0 →
        (Cv d 325 [.ref 103] σ3 (fun σ11 =>
        Q (some (.int (2 : Int32))) σ11))) ∧
       ((2 : Int32) = 0 →
        (Cv d 332 [.ref 103, .int (σ3.1 103 83)] σ3 (fun σ12 =>
        Q (some (.int (2 : Int32))) σ12))))))))) ∧
   (¬ x2 = 0 →
    ((¬ (1 : Int32) = 0 →
      (Cv d 325 [.ref 103] σ1 (fun σ13 =>
      Q (some (.int (1 : Int32))) σ13))) ∧
     ((1 : Int32) = 0 →
      (Cv d 332 [.ref 103, .int (σ1.1 103 83)] σ1 (fun σ14 =>
      Q (some (.int (1 : Int32))) σ14))))))))) :
  Cl (d + 1) 337 [.ref 103] σ Q := by
  exact Cl.run B_M_typeWord C_M_typeWord 14 fk_q337 ok_M_typeWord rfl h
def B_M_anyE : fkB := [(0, [(.aload_n 0, 1, []), (.getfield 670, 3, [12, 81, 1958, 0]), (.ifCond .lt 5, 3, [9])]),
  (7, [(.iconst 0, 1, []), (.ireturn, 1, [])]),
  (9, [(.aload_n 0, 1, []), (.getfield 734, 3, [12, 113, 1990, 0]), (.bipush 30, 2, []), (.if_icmp .ne 13, 3, [28])]),
  (18, [(.aload_n 0, 1, []), (.aload_n 0, 1, []), (.getfield 639, 3, [12, 83, 1960, 0]), (.invokevirtual 679, 3, [332, 1, 2694, 0, 0, 12]), (.iconst 0, 1, []), (.ireturn, 1, [])]),
  (28, [(.aload_n 0, 1, []), (.dup, 1, []), (.getfield 734, 3, [12, 113, 1990, 0]), (.iconst 1, 1, []), (.iadd, 1, []), (.putfield 734, 3, [12, 113, 1990, 0]), (.aload_n 0, 1, []), (.getfield 639, 3, [12, 83, 1960, 0]), (.istore_n 1, 1, []), (.aload_n 0, 1, []), (.ldc_w 736, 3, [8, 0, 0, 0, 0, 0, 1]), (.invokevirtual 689, 3, [331, 1, 2688, 0, 1, 12]), (.ifCond .eq 11, 3, [61])]),
  (53, [(.aload_n 0, 1, []), (.iload_n 1, 1, []), (.invokevirtual 738, 3, [339, 1, 2727, 0, 1, 12]), (.goto 44, 3, [102])]),
  (61, [(.aload_n 0, 1, []), (.ldc_w 740, 3, [10, 0, 0, 0, 0, 0, 1]), (.invokevirtual 689, 3, [331, 1, 2688, 0, 1, 12]), (.ifCond .eq 11, 3, [79])]),
  (71, [(.aload_n 0, 1, []), (.iload_n 1, 1, []), (.invokevirtual 742, 3, [341, 1, 2737, 0, 1, 12]), (.goto 26, 3, [102])]),
  (79, [(.aload_n 0, 1, []), (.ldc_w 745, 3, [13, 0, 0, 0, 0, 0, 1]), (.invokevirtual 689, 3, [331, 1, 2688, 0, 1, 12]), (.ifCond .eq 11, 3, [97])]),
  (89, [(.aload_n 0, 1, []), (.iload_n 1, 1, []), (.invokevirtual 747, 3, [342, 1, 2744, 0, 1, 12]), (.goto 8, 3, [102])]),
  (97, [(.aload_n 0, 1, []), (.iload_n 1, 1, []), (.invokevirtual 749, 3, [343, 1, 2750, 0, 1, 12])]),
  (102, [(.istore_n 2, 1, []), (.aload_n 0, 1, []), (.dup, 1, []), (.getfield 734, 3, [12, 113, 1990, 0]), (.iconst 1, 1, []), (.isub, 1, []), (.putfield 734, 3, [12, 113, 1990, 0]), (.iload_n 2, 1, []), (.ireturn, 1, [])])]
set_option maxRecDepth 100000 in
theorem ok_M_anyE : fk_okM 338 B_M_anyE = true := by decide +kernel
abbrev C_M_anyE : fkC := []
set_option maxRecDepth 100000 in
set_option maxHeartbeats 4000000 in
theorem S_M_anyE {d : Nat}  {σ : fkS} {Q : Option Value → fkS → Prop} 
  (h : (((σ.1 103 81) < 0 →
    ((¬ (σ.1 103 113) = (30 : Int32) →
      (Ci d 331 [.ref 103, .ref 2008] (sI σ 103 113 ((σ.1 103 113) + (1 : Int32))) (fun x2 σ1 =>
      ((x2 = 0 →
        (Ci d 331 [.ref 103, .ref 2010] σ1 (fun x4 σ3 =>
        ((x4 = 0 →
          (Ci d 331 [.ref 103, .ref 2013] σ3 (fun x6 σ5 =>
          ((x6 = 0 →
            (Ci d 343 [.ref 103, .int (σ.1 103 83)] σ5 (fun x8 σ7 =>
            Q (some (.int x8)) (sI σ7 103 113 ((σ7.1 103 113) - (1 : Int32)))))) ∧
           (¬ x6 = 0 →
            (Ci d 342 [.ref 103, .int (σ.1 103 83)] σ5 (fun x10 σ9 =>
            Q (some (.int x10)) (sI σ9 103 113 ((σ9.1 103 113) - (1 : Int32)))))))))) ∧
         (¬ x4 = 0 →
          (Ci d 341 [.ref 103, .int (σ.1 103 83)] σ3 (fun x12 σ11 =>
          Q (some (.int x12)) (sI σ11 103 113 ((σ11.1 103 113) - (1 : Int32)))))))))) ∧
       (¬ x2 = 0 →
        (Ci d 339 [.ref 103, .int (σ.1 103 83)] σ1 (fun x14 σ13 =>
        Q (some (.int x14)) (sI σ13 103 113 ((σ13.1 103 113) - (1 : Int32)))))))))) ∧
     ((σ.1 103 113) = (30 : Int32) →
      (Cv d 332 [.ref 103, .int (σ.1 103 83)] σ (fun σ15 =>
      Q (some (.int (0 : Int32))) σ15))))) ∧
   (¬ (σ.1 103 81) < 0 →
    Q (some (.int (0 : Int32))) σ))) :
  Cl (d + 1) 338 [.ref 103] σ Q := by
  exact Cl.run B_M_anyE C_M_anyE 15 fk_q338 ok_M_anyE rfl h
def B_M_let : fkB := [(0, [(.aload_n 0, 1, []), (.bipush 8, 2, []), (.iload_n 1, 1, []), (.invokevirtual 752, 3, [340, 2, 2731, 0, 1, 12]), (.istore_n 2, 1, []), (.aload_n 0, 1, []), (.invokevirtual 676, 3, [325, 0, 2660, 0, 0, 12]), (.aload_n 0, 1, []), (.invokevirtual 722, 3, [333, 0, 2698, 0, 0, 12]), (.aload_n 0, 1, []), (.getfield 222, 3, [12, 106, 1983, 0]), (.iload_n 2, 1, []), (.aload_n 0, 1, []), (.getfield 695, 3, [12, 86, 1963, 0]), (.iastore, 1, []), (.aload_n 0, 1, []), (.getfield 225, 3, [12, 107, 1984, 0]), (.iload_n 2, 1, []), (.aload_n 0, 1, []), (.getfield 698, 3, [12, 87, 1964, 0]), (.iastore, 1, []), (.aload_n 0, 1, []), (.bipush 61, 2, []), (.invokevirtual 725, 3, [335, 1, 2707, 0, 0, 12]), (.aload_n 0, 1, []), (.getfield 213, 3, [12, 103, 1980, 0]), (.iload_n 2, 1, []), (.aload_n 0, 1, []), (.getfield 639, 3, [12, 83, 1960, 0]), (.iastore, 1, []), (.aload_n 0, 1, []), (.getfield 204, 3, [12, 100, 1977, 0]), (.iload_n 2, 1, []), (.aload_n 0, 1, []), (.invokevirtual 731, 3, [338, 0, 2722, 0, 1, 12]), (.iastore, 1, []), (.aload_n 0, 1, []), (.ldc_w 755, 3, [9, 0, 0, 0, 0, 0, 1]), (.invokevirtual 715, 3, [330, 1, 2684, 0, 0, 12]), (.aload_n 0, 1, []), (.getfield 216, 3, [12, 104, 1981, 0]), (.iload_n 2, 1, []), (.aload_n 0, 1, []), (.getfield 639, 3, [12, 83, 1960, 0]), (.iastore, 1, []), (.aload_n 0, 1, []), (.getfield 207, 3, [12, 101, 1978, 0]), (.iload_n 2, 1, []), (.aload_n 0, 1, []), (.invokevirtual 731, 3, [338, 0, 2722, 0, 1, 12]), (.iastore, 1, []), (.iload_n 2, 1, []), (.ireturn, 1, [])])]
set_option maxRecDepth 100000 in
theorem ok_M_let : fk_okM 339 B_M_let = true := by decide +kernel
abbrev C_M_let : fkC := []
set_option maxRecDepth 100000 in
set_option maxHeartbeats 4000000 in
theorem S_M_let {d : Nat} {a0 : Int32} {σ : fkS} {Q : Option Value → fkS → Prop} 
  (h : (Ci d 340 [.ref 103, .int (8 : Int32), .int a0] σ (fun x2 σ1 =>
  (Cv d 325 [.ref 103] σ1 (fun σ3 =>
  (Cv d 333 [.ref 103] σ3 (fun σ4 =>
  (vp_in x2 3000 ∧
  (vp_in x2 3000 ∧
  (Cv d 335 [.ref 103, .int (61 : Int32)] (sI (sI σ4 172 x2.toNatClampNeg (σ4.1 103 86)) 173 x2.toNatClampNeg (σ4.1 103 87)) (fun σ5 =>
  (vp_in x2 3000 ∧
  (Ci d 338 [.ref 103] (sI σ5 169 x2.toNatClampNeg (σ5.1 103 83)) (fun x7 σ6 =>
  (vp_in x2 3000 ∧
  (Cv d 330 [.ref 103, .ref 2009] (sI σ6 166 x2.toNatClampNeg x7) (fun σ8 =>
  (vp_in x2 3000 ∧
  (Ci d 338 [.ref 103] (sI σ8 170 x2.toNatClampNeg (σ8.1 103 83)) (fun x10 σ9 =>
  (vp_in x2 3000 ∧
  Q (some (.int x2)) (sI σ9 167 x2.toNatClampNeg x10)))))))))))))))))))))) :
  Cl (d + 1) 339 [.ref 103, .int a0] σ Q := by
  exact Cl.run B_M_let C_M_let 4 fk_q339 ok_M_let rfl h
def B_M_choice : fkB := [(0, [(.aload_n 0, 1, []), (.bipush 9, 2, []), (.iload_n 1, 1, []), (.invokevirtual 752, 3, [340, 2, 2731, 0, 1, 12]), (.istore_n 2, 1, []), (.aload_n 0, 1, []), (.invokevirtual 676, 3, [325, 0, 2660, 0, 0, 12]), (.aload_n 0, 1, []), (.getfield 213, 3, [12, 103, 1980, 0]), (.iload_n 2, 1, []), (.aload_n 0, 1, []), (.getfield 639, 3, [12, 83, 1960, 0]), (.iastore, 1, []), (.aload_n 0, 1, []), (.getfield 204, 3, [12, 100, 1977, 0]), (.iload_n 2, 1, []), (.aload_n 0, 1, []), (.invokevirtual 731, 3, [338, 0, 2722, 0, 1, 12]), (.iastore, 1, []), (.aload_n 0, 1, []), (.ldc_w 757, 3, [11, 0, 0, 0, 0, 0, 1]), (.invokevirtual 715, 3, [330, 1, 2684, 0, 0, 12]), (.aload_n 0, 1, []), (.getfield 216, 3, [12, 104, 1981, 0]), (.iload_n 2, 1, []), (.aload_n 0, 1, []), (.getfield 639, 3, [12, 83, 1960, 0]), (.iastore, 1, []), (.aload_n 0, 1, []), (.getfield 207, 3, [12, 101, 1978, 0]), (.iload_n 2, 1, []), (.aload_n 0, 1, []), (.invokevirtual 731, 3, [338, 0, 2722, 0, 1, 12]), (.iastore, 1, []), (.aload_n 0, 1, []), (.ldc_w 759, 3, [12, 0, 0, 0, 0, 0, 1]), (.invokevirtual 715, 3, [330, 1, 2684, 0, 0, 12]), (.aload_n 0, 1, []), (.getfield 219, 3, [12, 105, 1982, 0]), (.iload_n 2, 1, []), (.aload_n 0, 1, []), (.getfield 639, 3, [12, 83, 1960, 0]), (.iastore, 1, []), (.aload_n 0, 1, []), (.getfield 210, 3, [12, 102, 1979, 0]), (.iload_n 2, 1, []), (.aload_n 0, 1, []), (.invokevirtual 731, 3, [338, 0, 2722, 0, 1, 12]), (.iastore, 1, []), (.iload_n 2, 1, []), (.ireturn, 1, [])])]
set_option maxRecDepth 100000 in
theorem ok_M_choice : fk_okM 341 B_M_choice = true := by decide +kernel
abbrev C_M_choice : fkC := []
set_option maxRecDepth 100000 in
set_option maxHeartbeats 4000000 in
theorem S_M_choice {d : Nat} {a0 : Int32} {σ : fkS} {Q : Option Value → fkS → Prop} 
  (h : (Ci d 340 [.ref 103, .int (9 : Int32), .int a0] σ (fun x2 σ1 =>
  (Cv d 325 [.ref 103] σ1 (fun σ3 =>
  (vp_in x2 3000 ∧
  (Ci d 338 [.ref 103] (sI σ3 169 x2.toNatClampNeg (σ3.1 103 83)) (fun x5 σ4 =>
  (vp_in x2 3000 ∧
  (Cv d 330 [.ref 103, .ref 2011] (sI σ4 166 x2.toNatClampNeg x5) (fun σ6 =>
  (vp_in x2 3000 ∧
  (Ci d 338 [.ref 103] (sI σ6 170 x2.toNatClampNeg (σ6.1 103 83)) (fun x8 σ7 =>
  (vp_in x2 3000 ∧
  (Cv d 330 [.ref 103, .ref 2012] (sI σ7 167 x2.toNatClampNeg x8) (fun σ9 =>
  (vp_in x2 3000 ∧
  (Ci d 338 [.ref 103] (sI σ9 171 x2.toNatClampNeg (σ9.1 103 83)) (fun x11 σ10 =>
  (vp_in x2 3000 ∧
  Q (some (.int x2)) (sI σ10 168 x2.toNatClampNeg x11)))))))))))))))))))))) :
  Cl (d + 1) 341 [.ref 103, .int a0] σ Q := by
  exact Cl.run B_M_choice C_M_choice 4 fk_q341 ok_M_choice rfl h
def B_M_match : fkB := [(0, [(.aload_n 0, 1, []), (.bipush 10, 2, []), (.iload_n 1, 1, []), (.invokevirtual 752, 3, [340, 2, 2731, 0, 1, 12]), (.istore_n 2, 1, []), (.aload_n 0, 1, []), (.invokevirtual 676, 3, [325, 0, 2660, 0, 0, 12]), (.aload_n 0, 1, []), (.getfield 213, 3, [12, 103, 1980, 0]), (.iload_n 2, 1, []), (.aload_n 0, 1, []), (.getfield 639, 3, [12, 83, 1960, 0]), (.iastore, 1, []), (.aload_n 0, 1, []), (.getfield 204, 3, [12, 100, 1977, 0]), (.iload_n 2, 1, []), (.aload_n 0, 1, []), (.invokevirtual 731, 3, [338, 0, 2722, 0, 1, 12]), (.iastore, 1, []), (.aload_n 0, 1, []), (.ldc_w 761, 3, [14, 0, 0, 0, 0, 0, 1]), (.invokevirtual 715, 3, [330, 1, 2684, 0, 0, 12]), (.aload_n 0, 1, []), (.ldc_w 763, 3, [15, 0, 0, 0, 0, 0, 1]), (.invokevirtual 715, 3, [330, 1, 2684, 0, 0, 12]), (.aload_n 0, 1, []), (.bipush 65, 2, []), (.invokevirtual 725, 3, [335, 1, 2707, 0, 0, 12]), (.aload_n 0, 1, []), (.getfield 216, 3, [12, 104, 1981, 0]), (.iload_n 2, 1, []), (.aload_n 0, 1, []), (.getfield 639, 3, [12, 83, 1960, 0]), (.iastore, 1, []), (.aload_n 0, 1, []), (.getfield 207, 3, [12, 101, 1978, 0]), (.iload_n 2, 1, []), (.aload_n 0, 1, []), (.invokevirtual 731, 3, [338, 0, 2722, 0, 1, 12]), (.iastore, 1, []), (.aload_n 0, 1, []), (.bipush 124, 2, []), (.invokevirtual 725, 3, [335, 1, 2707, 0, 0, 12]), (.aload_n 0, 1, []), (.invokevirtual 722, 3, [333, 0, 2698, 0, 0, 12]), (.aload_n 0, 1, []), (.getfield 222, 3, [12, 106, 1983, 0]), (.iload_n 2, 1, []), (.aload_n 0, 1, []), (.getfield 695, 3, [12, 86, 1963, 0]), (.iastore, 1, []), (.aload_n 0, 1, []), (.getfield 225, 3, [12, 107, 1984, 0]), (.iload_n 2, 1, []), (.aload_n 0, 1, []), (.getfield 698, 3, [12, 87, 1964, 0]), (.iastore, 1, []), (.aload_n 0, 1, []), (.bipush 44, 2, []), (.invokevirtual 725, 3, [335, 1, 2707, 0, 0, 12]), (.aload_n 0, 1, []), (.invokevirtual 722, 3, [333, 0, 2698, 0, 0, 12]), (.aload_n 0, 1, []), (.getfield 228, 3, [12, 108, 1985, 0]), (.iload_n 2, 1, []), (.aload_n 0, 1, []), (.getfield 695, 3, [12, 86, 1963, 0]), (.iastore, 1, []), (.aload_n 0, 1, []), (.getfield 231, 3, [12, 109, 1986, 0]), (.iload_n 2, 1, []), (.aload_n 0, 1, []), (.getfield 698, 3, [12, 87, 1964, 0]), (.iastore, 1, []), (.aload_n 0, 1, []), (.bipush 65, 2, []), (.invokevirtual 725, 3, [335, 1, 2707, 0, 0, 12]), (.aload_n 0, 1, []), (.getfield 219, 3, [12, 105, 1982, 0]), (.iload_n 2, 1, []), (.aload_n 0, 1, []), (.getfield 639, 3, [12, 83, 1960, 0]), (.iastore, 1, []), (.aload_n 0, 1, []), (.getfield 210, 3, [12, 102, 1979, 0]), (.iload_n 2, 1, []), (.aload_n 0, 1, []), (.invokevirtual 731, 3, [338, 0, 2722, 0, 1, 12]), (.iastore, 1, []), (.iload_n 2, 1, []), (.ireturn, 1, [])])]
set_option maxRecDepth 100000 in
theorem ok_M_match : fk_okM 342 B_M_match = true := by decide +kernel
abbrev C_M_match : fkC := []
set_option maxRecDepth 100000 in
set_option maxHeartbeats 4000000 in
theorem S_M_match {d : Nat} {a0 : Int32} {σ : fkS} {Q : Option Value → fkS → Prop} 
  (h : (Ci d 340 [.ref 103, .int (10 : Int32), .int a0] σ (fun x2 σ1 =>
  (Cv d 325 [.ref 103] σ1 (fun σ3 =>
  (vp_in x2 3000 ∧
  (Ci d 338 [.ref 103] (sI σ3 169 x2.toNatClampNeg (σ3.1 103 83)) (fun x5 σ4 =>
  (vp_in x2 3000 ∧
  (Cv d 330 [.ref 103, .ref 2014] (sI σ4 166 x2.toNatClampNeg x5) (fun σ6 =>
  (Cv d 330 [.ref 103, .ref 2015] σ6 (fun σ7 =>
  (Cv d 335 [.ref 103, .int (65 : Int32)] σ7 (fun σ8 =>
  (vp_in x2 3000 ∧
  (Ci d 338 [.ref 103] (sI σ8 170 x2.toNatClampNeg (σ8.1 103 83)) (fun x10 σ9 =>
  (vp_in x2 3000 ∧
  (Cv d 335 [.ref 103, .int (124 : Int32)] (sI σ9 167 x2.toNatClampNeg x10) (fun σ11 =>
  (Cv d 333 [.ref 103] σ11 (fun σ12 =>
  (vp_in x2 3000 ∧
  (vp_in x2 3000 ∧
  (Cv d 335 [.ref 103, .int (44 : Int32)] (sI (sI σ12 172 x2.toNatClampNeg (σ12.1 103 86)) 173 x2.toNatClampNeg (σ12.1 103 87)) (fun σ13 =>
  (Cv d 333 [.ref 103] σ13 (fun σ14 =>
  (vp_in x2 3000 ∧
  (vp_in x2 3000 ∧
  (Cv d 335 [.ref 103, .int (65 : Int32)] (sI (sI σ14 174 x2.toNatClampNeg (σ14.1 103 86)) 175 x2.toNatClampNeg (σ14.1 103 87)) (fun σ15 =>
  (vp_in x2 3000 ∧
  (Ci d 338 [.ref 103] (sI σ15 171 x2.toNatClampNeg (σ15.1 103 83)) (fun x17 σ16 =>
  (vp_in x2 3000 ∧
  Q (some (.int x2)) (sI σ16 168 x2.toNatClampNeg x17)))))))))))))))))))))))))))))))))))))) :
  Cl (d + 1) 342 [.ref 103, .int a0] σ Q := by
  exact Cl.run B_M_match C_M_match 4 fk_q342 ok_M_match rfl h
def B_M_simple : fkB := [(0, [(.aload_n 0, 1, []), (.getfield 645, 3, [12, 82, 1959, 0]), (.iconst 2, 1, []), (.if_icmp .ne 27, 3, [32])]),
  (8, [(.aload_n 0, 1, []), (.iconst 0, 1, []), (.iload_n 1, 1, []), (.invokevirtual 752, 3, [340, 2, 2731, 0, 1, 12]), (.istore_n 2, 1, []), (.aload_n 0, 1, []), (.getfield 234, 3, [12, 110, 1987, 0]), (.iload_n 2, 1, []), (.aload_n 0, 1, []), (.getfield 642, 3, [12, 85, 1962, 0]), (.l2i, 1, []), (.iastore, 1, []), (.aload_n 0, 1, []), (.invokevirtual 676, 3, [325, 0, 2660, 0, 0, 12]), (.iload_n 2, 1, []), (.ireturn, 1, [])]),
  (32, [(.aload_n 0, 1, []), (.bipush 40, 2, []), (.invokevirtual 673, 3, [336, 1, 2711, 0, 1, 12]), (.ifCond .eq 20, 3, [58])]),
  (41, [(.aload_n 0, 1, []), (.invokevirtual 676, 3, [325, 0, 2660, 0, 0, 12]), (.aload_n 0, 1, []), (.invokevirtual 731, 3, [338, 0, 2722, 0, 1, 12]), (.istore_n 2, 1, []), (.aload_n 0, 1, []), (.bipush 41, 2, []), (.invokevirtual 725, 3, [335, 1, 2707, 0, 0, 12]), (.iload_n 2, 1, []), (.ireturn, 1, [])]),
  (58, [(.aload_n 0, 1, []), (.bipush 38, 2, []), (.invokevirtual 673, 3, [336, 1, 2711, 0, 1, 12]), (.ifCond .eq 40, 3, [104])]),
  (67, [(.aload_n 0, 1, []), (.iconst 4, 1, []), (.iload_n 1, 1, []), (.invokevirtual 752, 3, [340, 2, 2731, 0, 1, 12]), (.istore_n 2, 1, []), (.aload_n 0, 1, []), (.invokevirtual 676, 3, [325, 0, 2660, 0, 0, 12]), (.aload_n 0, 1, []), (.invokevirtual 722, 3, [333, 0, 2698, 0, 0, 12]), (.aload_n 0, 1, []), (.getfield 222, 3, [12, 106, 1983, 0]), (.iload_n 2, 1, []), (.aload_n 0, 1, []), (.getfield 695, 3, [12, 86, 1963, 0]), (.iastore, 1, []), (.aload_n 0, 1, []), (.getfield 225, 3, [12, 107, 1984, 0]), (.iload_n 2, 1, []), (.aload_n 0, 1, []), (.getfield 698, 3, [12, 87, 1964, 0]), (.iastore, 1, []), (.iload_n 2, 1, []), (.ireturn, 1, [])]),
  (104, [(.aload_n 0, 1, []), (.ldc_w 763, 3, [15, 0, 0, 0, 0, 0, 1]), (.invokevirtual 689, 3, [331, 1, 2688, 0, 1, 12]), (.ifCond .eq 14, 3, [125])]),
  (114, [(.aload_n 0, 1, []), (.invokevirtual 676, 3, [325, 0, 2660, 0, 0, 12]), (.aload_n 0, 1, []), (.iconst 5, 1, []), (.iload_n 1, 1, []), (.invokevirtual 752, 3, [340, 2, 2731, 0, 1, 12]), (.ireturn, 1, [])]),
  (125, [(.aload_n 0, 1, []), (.ldc_w 787, 3, [16, 0, 0, 0, 0, 0, 1]), (.invokevirtual 689, 3, [331, 1, 2688, 0, 1, 12]), (.ifCond .ne 13, 3, [145])]),
  (135, [(.aload_n 0, 1, []), (.ldc_w 789, 3, [17, 0, 0, 0, 0, 0, 1]), (.invokevirtual 689, 3, [331, 1, 2688, 0, 1, 12]), (.ifCond .eq 90, 3, [232])]),
  (145, [(.aload_n 0, 1, []), (.aload_n 0, 1, []), (.ldc_w 787, 3, [16, 0, 0, 0, 0, 0, 1]), (.invokevirtual 689, 3, [331, 1, 2688, 0, 1, 12]), (.ifCond .eq 8, 3, [161])]),
  (156, [(.bipush 6, 2, []), (.goto 5, 3, [163])]),
  (161, [(.bipush 7, 2, [])]),
  (163, [(.iload_n 1, 1, []), (.invokevirtual 752, 3, [340, 2, 2731, 0, 1, 12]), (.istore_n 2, 1, []), (.aload_n 0, 1, []), (.invokevirtual 676, 3, [325, 0, 2660, 0, 0, 12]), (.aload_n 0, 1, []), (.bipush 40, 2, []), (.invokevirtual 725, 3, [335, 1, 2707, 0, 0, 12]), (.aload_n 0, 1, []), (.getfield 213, 3, [12, 103, 1980, 0]), (.iload_n 2, 1, []), (.aload_n 0, 1, []), (.getfield 639, 3, [12, 83, 1960, 0]), (.iastore, 1, []), (.aload_n 0, 1, []), (.getfield 204, 3, [12, 100, 1977, 0]), (.iload_n 2, 1, []), (.aload_n 0, 1, []), (.invokevirtual 731, 3, [338, 0, 2722, 0, 1, 12]), (.iastore, 1, []), (.aload_n 0, 1, []), (.bipush 44, 2, []), (.invokevirtual 725, 3, [335, 1, 2707, 0, 0, 12]), (.aload_n 0, 1, []), (.getfield 216, 3, [12, 104, 1981, 0]), (.iload_n 2, 1, []), (.aload_n 0, 1, []), (.getfield 639, 3, [12, 83, 1960, 0]), (.iastore, 1, []), (.aload_n 0, 1, []), (.getfield 207, 3, [12, 101, 1978, 0]), (.iload_n 2, 1, []), (.aload_n 0, 1, []), (.invokevirtual 731, 3, [338, 0, 2722, 0, 1, 12]), (.iastore, 1, []), (.aload_n 0, 1, []), (.bipush 41, 2, []), (.invokevirtual 725, 3, [335, 1, 2707, 0, 0, 12]), (.iload_n 2, 1, []), (.ireturn, 1, [])]),
  (232, [(.aload_n 0, 1, []), (.iconst 2, 1, []), (.iload_n 1, 1, []), (.invokevirtual 752, 3, [340, 2, 2731, 0, 1, 12]), (.istore_n 2, 1, []), (.aload_n 0, 1, []), (.invokevirtual 722, 3, [333, 0, 2698, 0, 0, 12]), (.aload_n 0, 1, []), (.getfield 222, 3, [12, 106, 1983, 0]), (.iload_n 2, 1, []), (.aload_n 0, 1, []), (.getfield 695, 3, [12, 86, 1963, 0]), (.iastore, 1, []), (.aload_n 0, 1, []), (.getfield 225, 3, [12, 107, 1984, 0]), (.iload_n 2, 1, []), (.aload_n 0, 1, []), (.getfield 698, 3, [12, 87, 1964, 0]), (.iastore, 1, []), (.aload_n 0, 1, []), (.bipush 40, 2, []), (.invokevirtual 673, 3, [336, 1, 2711, 0, 1, 12]), (.ifCond .ne 5, 3, [274])]),
  (272, [(.iload_n 2, 1, []), (.ireturn, 1, [])]),
  (274, [(.aload_n 0, 1, []), (.getfield 198, 3, [12, 98, 1975, 0]), (.iload_n 2, 1, []), (.iconst 3, 1, []), (.iastore, 1, []), (.iload_n 2, 1, []), (.istore_n 3, 1, []), (.iconst 1, 1, []), (.istore 4, 2, [])]),
  (286, [(.iload 4, 2, []), (.ifCond .eq 96, 3, [384])]),
  (291, [(.aload_n 0, 1, []), (.getfield 670, 3, [12, 81, 1958, 0]), (.ifCond .ge 89, 3, [384])]),
  (298, [(.aload_n 0, 1, []), (.invokevirtual 676, 3, [325, 0, 2660, 0, 0, 12]), (.aload_n 0, 1, []), (.bipush 12, 2, []), (.aload_n 0, 1, []), (.getfield 639, 3, [12, 83, 1960, 0]), (.invokevirtual 752, 3, [340, 2, 2731, 0, 1, 12]), (.istore 5, 2, []), (.aload_n 0, 1, []), (.getfield 213, 3, [12, 103, 1980, 0]), (.iload 5, 2, []), (.aload_n 0, 1, []), (.getfield 639, 3, [12, 83, 1960, 0]), (.iastore, 1, []), (.aload_n 0, 1, []), (.getfield 204, 3, [12, 100, 1977, 0]), (.iload 5, 2, []), (.aload_n 0, 1, []), (.invokevirtual 731, 3, [338, 0, 2722, 0, 1, 12]), (.iastore, 1, []), (.iload_n 3, 1, []), (.iload_n 2, 1, []), (.if_icmp .ne 14, 3, [352])]),
  (341, [(.aload_n 0, 1, []), (.getfield 204, 3, [12, 100, 1977, 0]), (.iload_n 2, 1, []), (.iload 5, 2, []), (.iastore, 1, []), (.goto 11, 3, [360])]),
  (352, [(.aload_n 0, 1, []), (.getfield 207, 3, [12, 101, 1978, 0]), (.iload_n 3, 1, []), (.iload 5, 2, []), (.iastore, 1, [])]),
  (360, [(.iload 5, 2, []), (.istore_n 3, 1, []), (.aload_n 0, 1, []), (.getfield 234, 3, [12, 110, 1987, 0]), (.iload_n 2, 1, []), (.dup2, 1, []), (.iaload, 1, []), (.iconst 1, 1, []), (.iadd, 1, []), (.iastore, 1, []), (.aload_n 0, 1, []), (.bipush 44, 2, []), (.invokevirtual 673, 3, [336, 1, 2711, 0, 1, 12]), (.istore 4, 2, []), (.goto (-95), 3, [286])]),
  (384, [(.aload_n 0, 1, []), (.bipush 41, 2, []), (.invokevirtual 725, 3, [335, 1, 2707, 0, 0, 12]), (.iload_n 2, 1, []), (.ireturn, 1, [])])]
set_option maxRecDepth 100000 in
theorem ok_M_simple : fk_okM 348 B_M_simple = true := by decide +kernel
abbrev C_M_simple : fkC := [(163, [true, true, false, false, false, false]), (286, [true, false, true, true, true, false]), (360, [true, false, true, false, false, true])]
set_option maxRecDepth 100000 in
set_option maxHeartbeats 4000000 in
theorem S_M_simple {d : Nat} {a0 : Int32} {σ : fkS} {Q : Option Value → fkS → Prop} 
  (h : ((¬ (σ.1 103 82) = (2 : Int32) →
    (Ci d 336 [.ref 103, .int (40 : Int32)] σ (fun x2 σ1 =>
    ((x2 = 0 →
      (Ci d 336 [.ref 103, .int (38 : Int32)] σ1 (fun x4 σ3 =>
      ((x4 = 0 →
        (Ci d 331 [.ref 103, .ref 2015] σ3 (fun x6 σ5 =>
        ((x6 = 0 →
          (Ci d 331 [.ref 103, .ref 2016] σ5 (fun x8 σ7 =>
          ((¬ x8 = 0 →
            (Ci d 331 [.ref 103, .ref 2016] σ7 (fun x10 σ9 =>
            ((x10 = 0 →
              Wq 348 (d + 1) 163 [some (.ref 103), some (.int a0), none, none, none, none] [.int (7 : Int32), .ref 103] σ9 Q) ∧
             (¬ x10 = 0 →
              Wq 348 (d + 1) 163 [some (.ref 103), some (.int a0), none, none, none, none] [.int (6 : Int32), .ref 103] σ9 Q))))) ∧
           (x8 = 0 →
            (Ci d 331 [.ref 103, .ref 2017] σ7 (fun x12 σ11 =>
            ((x12 = 0 →
              (Ci d 340 [.ref 103, .int (2 : Int32), .int a0] σ11 (fun x14 σ13 =>
              (Cv d 333 [.ref 103] σ13 (fun σ15 =>
              (vp_in x14 3000 ∧
              (vp_in x14 3000 ∧
              (Ci d 336 [.ref 103, .int (40 : Int32)] (sI (sI σ15 172 x14.toNatClampNeg (σ15.1 103 86)) 173 x14.toNatClampNeg (σ15.1 103 87)) (fun x17 σ16 =>
              ((¬ x17 = 0 →
                (vp_in x14 3000 ∧
                Wq 348 (d + 1) 286 [some (.ref 103), none, some (.int x14), some (.int x14), some (.int (1 : Int32)), none] [] (sI σ16 164 x14.toNatClampNeg (3 : Int32)) Q)) ∧
               (x17 = 0 →
                Q (some (.int x14)) σ16))))))))))) ∧
             (¬ x12 = 0 →
              (Ci d 331 [.ref 103, .ref 2016] σ11 (fun x19 σ18 =>
              ((x19 = 0 →
                Wq 348 (d + 1) 163 [some (.ref 103), some (.int a0), none, none, none, none] [.int (7 : Int32), .ref 103] σ18 Q) ∧
               (¬ x19 = 0 →
                Wq 348 (d + 1) 163 [some (.ref 103), some (.int a0), none, none, none, none] [.int (6 : Int32), .ref 103] σ18 Q))))))))))))) ∧
         (¬ x6 = 0 →
          (Cv d 325 [.ref 103] σ5 (fun σ20 =>
          (Ci d 340 [.ref 103, .int (5 : Int32), .int a0] σ20 (fun x22 σ21 =>
          Q (some (.int x22)) σ21))))))))) ∧
       (¬ x4 = 0 →
        (Ci d 340 [.ref 103, .int (4 : Int32), .int a0] σ3 (fun x24 σ23 =>
        (Cv d 325 [.ref 103] σ23 (fun σ25 =>
        (Cv d 333 [.ref 103] σ25 (fun σ26 =>
        (vp_in x24 3000 ∧
        (vp_in x24 3000 ∧
        Q (some (.int x24)) (sI (sI σ26 172 x24.toNatClampNeg (σ26.1 103 86)) 173 x24.toNatClampNeg (σ26.1 103 87))))))))))))))) ∧
     (¬ x2 = 0 →
      (Cv d 325 [.ref 103] σ1 (fun σ27 =>
      (Ci d 338 [.ref 103] σ27 (fun x29 σ28 =>
      (Cv d 335 [.ref 103, .int (41 : Int32)] σ28 (fun σ30 =>
      Q (some (.int x29)) σ30))))))))))) ∧
   ((σ.1 103 82) = (2 : Int32) →
    (Ci d 340 [.ref 103, .int (0 : Int32), .int a0] σ (fun x32 σ31 =>
    (vp_in x32 3000 ∧
    (Cv d 325 [.ref 103] (sI σ31 176 x32.toNatClampNeg ((σ31.2.1 103 85).toInt32)) (fun σ33 =>
    Q (some (.int x32)) σ33)))))))) :
  Cl (d + 1) 348 [.ref 103, .int a0] σ Q := by
  exact Cl.run B_M_simple C_M_simple 27 fk_q348 ok_M_simple rfl h
set_option maxRecDepth 100000 in
set_option maxHeartbeats 4000000 in
theorem S_M_simple_163 {d : Nat} {v1 : Int32} {s1 : Int32} {σ : fkS} {Q : Option Value → fkS → Prop} 
  (h : (Ci d 340 [.ref 103, .int s1, .int v1] σ (fun x2 σ1 =>
  (Cv d 325 [.ref 103] σ1 (fun σ3 =>
  (Cv d 335 [.ref 103, .int (40 : Int32)] σ3 (fun σ4 =>
  (vp_in x2 3000 ∧
  (Ci d 338 [.ref 103] (sI σ4 169 x2.toNatClampNeg (σ4.1 103 83)) (fun x6 σ5 =>
  (vp_in x2 3000 ∧
  (Cv d 335 [.ref 103, .int (44 : Int32)] (sI σ5 166 x2.toNatClampNeg x6) (fun σ7 =>
  (vp_in x2 3000 ∧
  (Ci d 338 [.ref 103] (sI σ7 170 x2.toNatClampNeg (σ7.1 103 83)) (fun x9 σ8 =>
  (vp_in x2 3000 ∧
  (Cv d 335 [.ref 103, .int (41 : Int32)] (sI σ8 167 x2.toNatClampNeg x9) (fun σ10 =>
  Q (some (.int x2)) σ10))))))))))))))))))) :
  Wq 348 (d + 1) 163 [some (.ref 103), some (.int v1), none, none, none, none] [.int s1, .ref 103] σ Q := by
  exact fk_run_sound (B := B_M_simple) (C := C_M_simple) (n := 27) ok_M_simple h
set_option maxRecDepth 100000 in
set_option maxHeartbeats 4000000 in
theorem S_M_simple_286 {d : Nat} {v2 : Int32} {v3 : Int32} {v4 : Int32} {σ : fkS} {Q : Option Value → fkS → Prop} 
  (h : ((v4 = 0 →
    (Cv d 335 [.ref 103, .int (41 : Int32)] σ (fun σ1 =>
    Q (some (.int v2)) σ1))) ∧
   (¬ v4 = 0 →
    ((0 ≤ (σ.1 103 81) →
      (Cv d 335 [.ref 103, .int (41 : Int32)] σ (fun σ2 =>
      Q (some (.int v2)) σ2))) ∧
     (¬ 0 ≤ (σ.1 103 81) →
      (Cv d 325 [.ref 103] σ (fun σ3 =>
      (Ci d 340 [.ref 103, .int (12 : Int32), .int (σ3.1 103 83)] σ3 (fun x5 σ4 =>
      (vp_in x5 3000 ∧
      (Ci d 338 [.ref 103] (sI σ4 169 x5.toNatClampNeg (σ4.1 103 83)) (fun x7 σ6 =>
      (vp_in x5 3000 ∧
      ((¬ v3 = v2 →
        (vp_in v3 3000 ∧
        Wq 348 (d + 1) 360 [some (.ref 103), none, some (.int v2), none, none, some (.int x5)] [] (sI (sI σ6 166 x5.toNatClampNeg x7) 167 v3.toNatClampNeg x5) Q)) ∧
       (v3 = v2 →
        (vp_in v2 3000 ∧
        Wq 348 (d + 1) 360 [some (.ref 103), none, some (.int v2), none, none, some (.int x5)] [] (sI (sI σ6 166 x5.toNatClampNeg x7) 166 v2.toNatClampNeg x5) Q)))))))))))))))) :
  Wq 348 (d + 1) 286 [some (.ref 103), none, some (.int v2), some (.int v3), some (.int v4), none] [] σ Q := by
  exact fk_run_sound (B := B_M_simple) (C := C_M_simple) (n := 27) ok_M_simple h
set_option maxRecDepth 100000 in
set_option maxHeartbeats 4000000 in
theorem S_M_simple_360 {d : Nat} {v2 : Int32} {v5 : Int32} {σ : fkS} {Q : Option Value → fkS → Prop} 
  (h : (vp_in v2 3000 ∧
  (vp_in v2 3000 ∧
  (Ci d 336 [.ref 103, .int (44 : Int32)] (sI σ 176 v2.toNatClampNeg ((σ.1 176 v2.toNatClampNeg) + (1 : Int32))) (fun x2 σ1 =>
  Wq 348 (d + 1) 286 [some (.ref 103), none, some (.int v2), some (.int v5), some (.int x2), none] [] σ1 Q))))) :
  Wq 348 (d + 1) 360 [some (.ref 103), none, some (.int v2), none, none, some (.int v5)] [] σ Q := by
  exact fk_run_sound (B := B_M_simple) (C := C_M_simple) (n := 27) ok_M_simple h
