/-! the law: its loop, and each of its cases -/
set_option maxRecDepth 100000 in
theorem sg_191_10 (b3 : Int) (m : jx_M) (Q : Int → jx_M → Prop) (hv :
    ((jx_in ((m 61 0 0) - 7)) ∧
  ((((m 61 0 0) - 7) < b3 →
      (((1 : Int) = 0 ∨ (1 : Int) = 1) ∧
  Q 1 m)) ∧
      (¬ (((m 61 0 0) - 7) < b3) →
      ((0 ≤ b3 ∧ b3 < m 61 0 0) ∧
  (((jx_iand (m 60 0 (b3.toNat)) 63) = 0 →
        jx_AW 191 22 [some (xA 60 0), some (xA 0 0), some (xA 26 0), some (xI b3)] [] m Q) ∧
        (¬ ((jx_iand (m 60 0 (b3.toNat)) 63) = 0) →
        (((jx_iand (m 60 0 (b3.toNat)) 63) = 1 →
        jx_AW 191 49 [some (xA 60 0), some (xA 0 0), some (xA 26 0), some (xI b3)] [] m Q) ∧
        (¬ ((jx_iand (m 60 0 (b3.toNat)) 63) = 1) →
        (((jx_iand (m 60 0 (b3.toNat)) 63) = 2 →
        jx_AW 191 86 [some (xA 60 0), some (xA 0 0), some (xA 26 0), some (xI b3)] [] m Q) ∧
        (¬ ((jx_iand (m 60 0 (b3.toNat)) 63) = 2) →
        (((jx_iand (m 60 0 (b3.toNat)) 63) = 3 →
        jx_AW 191 123 [some (xA 60 0), some (xA 0 0), some (xA 26 0), some (xI b3)] [] m Q) ∧
        (¬ ((jx_iand (m 60 0 (b3.toNat)) 63) = 3) →
        (((jx_iand (m 60 0 (b3.toNat)) 63) = 4 →
        jx_AW 191 174 [some (xA 60 0), some (xA 0 0), some (xA 26 0), some (xI b3)] [] m Q) ∧
        (¬ ((jx_iand (m 60 0 (b3.toNat)) 63) = 4) →
        (((jx_iand (m 60 0 (b3.toNat)) 63) = 5 →
        jx_AW 191 181 [some (xA 60 0), some (xA 0 0), some (xA 26 0), some (xI b3)] [] m Q) ∧
        (¬ ((jx_iand (m 60 0 (b3.toNat)) 63) = 5) →
        (((jx_iand (m 60 0 (b3.toNat)) 63) = 6 →
        jx_AW 191 198 [some (xA 60 0), some (xA 0 0), some (xA 26 0), some (xI b3)] [] m Q) ∧
        (¬ ((jx_iand (m 60 0 (b3.toNat)) 63) = 6) →
        (((jx_iand (m 60 0 (b3.toNat)) 63) = 7 →
        jx_AW 191 215 [some (xA 60 0), some (xA 0 0), some (xA 26 0), some (xI b3)] [] m Q) ∧
        (¬ ((jx_iand (m 60 0 (b3.toNat)) 63) = 7) →
        (((jx_iand (m 60 0 (b3.toNat)) 63) = 8 →
        jx_AW 191 252 [some (xA 60 0), some (xA 0 0), some (xA 26 0), some (xI b3)] [] m Q) ∧
        (¬ ((jx_iand (m 60 0 (b3.toNat)) 63) = 8) →
        (((jx_iand (m 60 0 (b3.toNat)) 63) = 9 →
        jx_AW 191 279 [some (xA 60 0), some (xA 0 0), some (xA 26 0), some (xI b3)] [] m Q) ∧
        (¬ ((jx_iand (m 60 0 (b3.toNat)) 63) = 9) →
        (((jx_iand (m 60 0 (b3.toNat)) 63) = 10 →
        jx_AW 191 296 [some (xA 60 0), some (xA 0 0), some (xA 26 0), some (xI b3)] [] m Q) ∧
        (¬ ((jx_iand (m 60 0 (b3.toNat)) 63) = 10) →
        (((jx_iand (m 60 0 (b3.toNat)) 63) = 11 →
        jx_AW 191 323 [some (xA 60 0), some (xA 0 0), some (xA 26 0), some (xI b3)] [] m Q) ∧
        (¬ ((jx_iand (m 60 0 (b3.toNat)) 63) = 11) →
        (((jx_iand (m 60 0 (b3.toNat)) 63) = 12 →
        jx_AW 191 350 [some (xA 60 0), some (xA 0 0), some (xA 26 0), some (xI b3)] [] m Q) ∧
        (¬ ((jx_iand (m 60 0 (b3.toNat)) 63) = 12) →
        (((jx_iand (m 60 0 (b3.toNat)) 63) = 13 →
        jx_AW 191 367 [some (xA 60 0), some (xA 0 0), some (xA 26 0), some (xI b3)] [] m Q) ∧
        (¬ ((jx_iand (m 60 0 (b3.toNat)) 63) = 13) →
        (((jx_iand (m 60 0 (b3.toNat)) 63) = 14 →
        jx_AW 191 402 [some (xA 60 0), some (xA 0 0), some (xA 26 0), some (xI b3)] [] m Q) ∧
        (¬ ((jx_iand (m 60 0 (b3.toNat)) 63) = 14) →
        (((jx_iand (m 60 0 (b3.toNat)) 63) = 15 →
        jx_AW 191 419 [some (xA 60 0), some (xA 0 0), some (xA 26 0), some (xI b3)] [] m Q) ∧
        (¬ ((jx_iand (m 60 0 (b3.toNat)) 63) = 15) →
        (((jx_iand (m 60 0 (b3.toNat)) 63) = 16 →
        jx_AW 191 466 [some (xA 60 0), some (xA 0 0), some (xA 26 0), some (xI b3)] [] m Q) ∧
        (¬ ((jx_iand (m 60 0 (b3.toNat)) 63) = 16) →
        (((jx_iand (m 60 0 (b3.toNat)) 63) = 17 →
        jx_AW 191 493 [some (xA 60 0), some (xA 0 0), some (xA 26 0), some (xI b3)] [] m Q) ∧
        (¬ ((jx_iand (m 60 0 (b3.toNat)) 63) = 17) →
        (((jx_iand (m 60 0 (b3.toNat)) 63) = 18 →
        jx_AW 191 510 [some (xA 60 0), some (xA 0 0), some (xA 26 0), some (xI b3)] [] m Q) ∧
        (¬ ((jx_iand (m 60 0 (b3.toNat)) 63) = 18) →
        (((jx_iand (m 60 0 (b3.toNat)) 63) = 19 →
        jx_AW 191 527 [some (xA 60 0), some (xA 0 0), some (xA 26 0), some (xI b3)] [] m Q) ∧
        (¬ ((jx_iand (m 60 0 (b3.toNat)) 63) = 19) →
        (((jx_iand (m 60 0 (b3.toNat)) 63) = 20 →
        jx_AW 191 554 [some (xA 60 0), some (xA 0 0), some (xA 26 0), some (xI b3)] [] m Q) ∧
        (¬ ((jx_iand (m 60 0 (b3.toNat)) 63) = 20) →
        (((jx_iand (m 60 0 (b3.toNat)) 63) = 21 →
        jx_AW 191 591 [some (xA 60 0), some (xA 0 0), some (xA 26 0), some (xI b3)] [] m Q) ∧
        (¬ ((jx_iand (m 60 0 (b3.toNat)) 63) = 21) →
        (((jx_iand (m 60 0 (b3.toNat)) 63) = 22 →
        jx_AW 191 638 [some (xA 60 0), some (xA 0 0), some (xA 26 0), some (xI b3)] [] m Q) ∧
        (¬ ((jx_iand (m 60 0 (b3.toNat)) 63) = 22) →
        (((jx_iand (m 60 0 (b3.toNat)) 63) = 23 →
        jx_AW 191 655 [some (xA 60 0), some (xA 0 0), some (xA 26 0), some (xI b3)] [] m Q) ∧
        (¬ ((jx_iand (m 60 0 (b3.toNat)) 63) = 23) →
        (((jx_iand (m 60 0 (b3.toNat)) 63) = 24 →
        jx_AW 191 682 [some (xA 60 0), some (xA 0 0), some (xA 26 0), some (xI b3)] [] m Q) ∧
        (¬ ((jx_iand (m 60 0 (b3.toNat)) 63) = 24) →
        (((jx_iand (m 60 0 (b3.toNat)) 63) = 25 →
        jx_AW 191 709 [some (xA 60 0), some (xA 0 0), some (xA 26 0), some (xI b3)] [] m Q) ∧
        (¬ ((jx_iand (m 60 0 (b3.toNat)) 63) = 25) →
        (((jx_iand (m 60 0 (b3.toNat)) 63) = 26 →
        jx_AW 191 754 [some (xA 60 0), some (xA 0 0), some (xA 26 0), some (xI b3)] [] m Q) ∧
        (¬ ((jx_iand (m 60 0 (b3.toNat)) 63) = 26) →
        (((jx_iand (m 60 0 (b3.toNat)) 63) = 27 →
        jx_AW 191 781 [some (xA 60 0), some (xA 0 0), some (xA 26 0), some (xI b3)] [] m Q) ∧
        (¬ ((jx_iand (m 60 0 (b3.toNat)) 63) = 27) →
        (((jx_iand (m 60 0 (b3.toNat)) 63) = 28 →
        jx_AW 191 788 [some (xA 60 0), some (xA 0 0), some (xA 26 0), some (xI b3)] [] m Q) ∧
        (¬ ((jx_iand (m 60 0 (b3.toNat)) 63) = 28) →
        (((jx_iand (m 60 0 (b3.toNat)) 63) = 29 →
        jx_AW 191 815 [some (xA 60 0), some (xA 0 0), some (xA 26 0), some (xI b3)] [] m Q) ∧
        (¬ ((jx_iand (m 60 0 (b3.toNat)) 63) = 29) →
        (((jx_iand (m 60 0 (b3.toNat)) 63) = 30 →
        jx_AW 191 842 [some (xA 60 0), some (xA 0 0), some (xA 26 0), some (xI b3)] [] m Q) ∧
        (¬ ((jx_iand (m 60 0 (b3.toNat)) 63) = 30) →
        (((jx_iand (m 60 0 (b3.toNat)) 63) = 31 →
        jx_AW 191 849 [some (xA 60 0), some (xA 0 0), some (xA 26 0), some (xI b3)] [] m Q) ∧
        (¬ ((jx_iand (m 60 0 (b3.toNat)) 63) = 31) →
        (((jx_iand (m 60 0 (b3.toNat)) 63) = 32 →
        jx_AW 191 856 [some (xA 60 0), some (xA 0 0), some (xA 26 0), some (xI b3)] [] m Q) ∧
        (¬ ((jx_iand (m 60 0 (b3.toNat)) 63) = 32) →
        (((jx_iand (m 60 0 (b3.toNat)) 63) = 33 →
        jx_AW 191 923 [some (xA 60 0), some (xA 0 0), some (xA 26 0), some (xI b3)] [] m Q) ∧
        (¬ ((jx_iand (m 60 0 (b3.toNat)) 63) = 33) →
        (((jx_iand (m 60 0 (b3.toNat)) 63) = 34 →
        jx_AW 191 990 [some (xA 60 0), some (xA 0 0), some (xA 26 0), some (xI b3)] [] m Q) ∧
        (¬ ((jx_iand (m 60 0 (b3.toNat)) 63) = 34) →
        (((jx_iand (m 60 0 (b3.toNat)) 63) = 35 →
        jx_AW 191 1027 [some (xA 60 0), some (xA 0 0), some (xA 26 0), some (xI b3)] [] m Q) ∧
        (¬ ((jx_iand (m 60 0 (b3.toNat)) 63) = 35) →
        (((jx_iand (m 60 0 (b3.toNat)) 63) = 36 →
        jx_AW 191 1044 [some (xA 60 0), some (xA 0 0), some (xA 26 0), some (xI b3)] [] m Q) ∧
        (¬ ((jx_iand (m 60 0 (b3.toNat)) 63) = 36) →
        (((jx_iand (m 60 0 (b3.toNat)) 63) = 37 →
        jx_AW 191 1091 [some (xA 60 0), some (xA 0 0), some (xA 26 0), some (xI b3)] [] m Q) ∧
        (¬ ((jx_iand (m 60 0 (b3.toNat)) 63) = 37) →
        ((jx_in (b3 + 7)) ∧
  jx_AW 191 10 [some (xA 60 0), some (xA 0 0), some (xA 26 0), some (xI (b3 + 7))] [] m Q)))))))))))))))))))))))))))))))))))))))))))))))))))))))))))))))))))))))))))))))))) :
    jx_AW 191 10 [some (xA 60 0), some (xA 0 0), some (xA 26 0), some (xI b3)] [] m Q :=
  jx_segOk (x := 191) (cd := jx_c191) rfl (stops := [10, 22, 49, 86, 123, 174, 181, 198, 215, 252, 279, 296, 323, 350, 367, 402, 419, 466, 493, 510, 527, 554, 591, 638, 655, 682, 709, 754, 781, 788, 815, 842, 849, 856, 923, 990, 1027, 1044, 1091]) 15 hv
set_option maxRecDepth 100000 in
theorem sg_191_c0 (b3 : Int) (m : jx_M) (Q : Int → jx_M → Prop) (hv :
    ((jx_in (b3 + 1)) ∧
  ((0 ≤ (b3 + 1) ∧ (b3 + 1) < m 61 0 0) ∧
  ((jx_in (b3 + 2)) ∧
  ((0 ≤ (b3 + 2) ∧ (b3 + 2) < m 61 0 0) ∧
  ((0 < 1) ∧
  jx_Cl 10 [xA 0 0, xI (m 60 0 ((b3 + 1).toNat)), xI (m 60 0 ((b3 + 2).toNat))] m (fun z1 m1 =>
      ((jx_in (b3 + 1)) ∧
  ((0 ≤ (b3 + 1) ∧ (b3 + 1) < m1 61 0 0) ∧
  ((jx_in (b3 + 2)) ∧
  ((0 ≤ (b3 + 2) ∧ (b3 + 2) < m1 61 0 0) ∧
  ((0 < 1) ∧
  jx_Cl 123 [xA 26 0, xI (m1 60 0 ((b3 + 1).toNat)), xI (m1 60 0 ((b3 + 2).toNat))] m1 (fun z2 m2 =>
        ((z1 = z2 →
          ((jx_in (b3 + 7)) ∧
  jx_AW 191 10 [some (xA 60 0), some (xA 0 0), some (xA 26 0), some (xI (b3 + 7))] [] m2 Q)) ∧
          (¬ (z1 = z2) →
          (((0 : Int) = 0 ∨ (0 : Int) = 1) ∧
  Q 0 m2)))))))))))))))) :
    jx_AW 191 22 [some (xA 60 0), some (xA 0 0), some (xA 26 0), some (xI b3)] [] m Q :=
  jx_segOk (x := 191) (cd := jx_c191) rfl (stops := [10]) 28 hv
set_option maxRecDepth 100000 in
theorem sg_191_c1 (b3 : Int) (m : jx_M) (Q : Int → jx_M → Prop) (hv :
    ((jx_in (b3 + 1)) ∧
  ((0 ≤ (b3 + 1) ∧ (b3 + 1) < m 61 0 0) ∧
  ((jx_in (b3 + 2)) ∧
  ((0 ≤ (b3 + 2) ∧ (b3 + 2) < m 61 0 0) ∧
  ((jx_in (b3 + 3)) ∧
  ((0 ≤ (b3 + 3) ∧ (b3 + 3) < m 61 0 0) ∧
  ((0 < 1) ∧
  jx_Cl 13 [xA 0 0, xI (m 60 0 ((b3 + 1).toNat)), xI (m 60 0 ((b3 + 2).toNat)), xI (m 60 0 ((b3 + 3).toNat))] m (fun z1 m1 =>
      ((jx_in (b3 + 1)) ∧
  ((0 ≤ (b3 + 1) ∧ (b3 + 1) < m1 61 0 0) ∧
  ((jx_in (b3 + 2)) ∧
  ((0 ≤ (b3 + 2) ∧ (b3 + 2) < m1 61 0 0) ∧
  ((jx_in (b3 + 3)) ∧
  ((0 ≤ (b3 + 3) ∧ (b3 + 3) < m1 61 0 0) ∧
  ((0 < 1) ∧
  jx_Cl 126 [xA 26 0, xI (m1 60 0 ((b3 + 1).toNat)), xI (m1 60 0 ((b3 + 2).toNat)), xI (m1 60 0 ((b3 + 3).toNat))] m1 (fun z2 m2 =>
        ((z1 = z2 →
          ((jx_in (b3 + 7)) ∧
  jx_AW 191 10 [some (xA 60 0), some (xA 0 0), some (xA 26 0), some (xI (b3 + 7))] [] m2 Q)) ∧
          (¬ (z1 = z2) →
          (((0 : Int) = 0 ∨ (0 : Int) = 1) ∧
  Q 0 m2)))))))))))))))))))) :
    jx_AW 191 49 [some (xA 60 0), some (xA 0 0), some (xA 26 0), some (xI b3)] [] m Q :=
  jx_segOk (x := 191) (cd := jx_c191) rfl (stops := [10]) 38 hv
set_option maxRecDepth 100000 in
theorem sg_191_c2 (b3 : Int) (m : jx_M) (Q : Int → jx_M → Prop) (hv :
    ((jx_in (b3 + 1)) ∧
  ((0 ≤ (b3 + 1) ∧ (b3 + 1) < m 61 0 0) ∧
  ((jx_in (b3 + 2)) ∧
  ((0 ≤ (b3 + 2) ∧ (b3 + 2) < m 61 0 0) ∧
  ((jx_in (b3 + 3)) ∧
  ((0 ≤ (b3 + 3) ∧ (b3 + 3) < m 61 0 0) ∧
  ((0 < 1) ∧
  jx_Cl 18 [xA 0 0, xI (m 60 0 ((b3 + 1).toNat)), xI (m 60 0 ((b3 + 2).toNat)), xI (m 60 0 ((b3 + 3).toNat))] m (fun z1 m1 =>
      ((jx_in (b3 + 1)) ∧
  ((0 ≤ (b3 + 1) ∧ (b3 + 1) < m1 61 0 0) ∧
  ((jx_in (b3 + 2)) ∧
  ((0 ≤ (b3 + 2) ∧ (b3 + 2) < m1 61 0 0) ∧
  ((jx_in (b3 + 3)) ∧
  ((0 ≤ (b3 + 3) ∧ (b3 + 3) < m1 61 0 0) ∧
  ((0 < 1) ∧
  jx_Cl 129 [xA 26 0, xI (m1 60 0 ((b3 + 1).toNat)), xI (m1 60 0 ((b3 + 2).toNat)), xI (m1 60 0 ((b3 + 3).toNat))] m1 (fun z2 m2 =>
        ((z1 = z2 →
          ((jx_in (b3 + 7)) ∧
  jx_AW 191 10 [some (xA 60 0), some (xA 0 0), some (xA 26 0), some (xI (b3 + 7))] [] m2 Q)) ∧
          (¬ (z1 = z2) →
          (((0 : Int) = 0 ∨ (0 : Int) = 1) ∧
  Q 0 m2)))))))))))))))))))) :
    jx_AW 191 86 [some (xA 60 0), some (xA 0 0), some (xA 26 0), some (xI b3)] [] m Q :=
  jx_segOk (x := 191) (cd := jx_c191) rfl (stops := [10]) 38 hv
set_option maxRecDepth 100000 in
theorem sg_191_c3 (b3 : Int) (m : jx_M) (Q : Int → jx_M → Prop) (hv :
    ((jx_in (b3 + 1)) ∧
  ((0 ≤ (b3 + 1) ∧ (b3 + 1) < m 61 0 0) ∧
  ((jx_in (b3 + 2)) ∧
  ((0 ≤ (b3 + 2) ∧ (b3 + 2) < m 61 0 0) ∧
  ((jx_in (b3 + 3)) ∧
  ((0 ≤ (b3 + 3) ∧ (b3 + 3) < m 61 0 0) ∧
  ((0 < 1) ∧
  jx_Cl 22 [xA 0 0, xL (jx_lor (jx_lshl (m 60 0 ((b3 + 1).toNat)) 32) (jx_land (m 60 0 ((b3 + 2).toNat)) 4294967295)), xI (m 60 0 ((b3 + 3).toNat))] m (fun z1 m1 =>
      ((jx_in (b3 + 1)) ∧
  ((0 ≤ (b3 + 1) ∧ (b3 + 1) < m1 61 0 0) ∧
  ((jx_in (b3 + 2)) ∧
  ((0 ≤ (b3 + 2) ∧ (b3 + 2) < m1 61 0 0) ∧
  ((jx_in (b3 + 3)) ∧
  ((0 ≤ (b3 + 3) ∧ (b3 + 3) < m1 61 0 0) ∧
  ((0 < 1) ∧
  jx_Cl 131 [xA 26 0, xL (jx_lor (jx_lshl (m1 60 0 ((b3 + 1).toNat)) 32) (jx_land (m1 60 0 ((b3 + 2).toNat)) 4294967295)), xI (m1 60 0 ((b3 + 3).toNat))] m1 (fun z2 m2 =>
        ((z1 = z2 →
          ((jx_in (b3 + 7)) ∧
  jx_AW 191 10 [some (xA 60 0), some (xA 0 0), some (xA 26 0), some (xI (b3 + 7))] [] m2 Q)) ∧
          (¬ (z1 = z2) →
          (((0 : Int) = 0 ∨ (0 : Int) = 1) ∧
  Q 0 m2)))))))))))))))))))) :
    jx_AW 191 123 [some (xA 60 0), some (xA 0 0), some (xA 26 0), some (xI b3)] [] m Q :=
  jx_segOk (x := 191) (cd := jx_c191) rfl (stops := [10]) 52 hv
set_option maxRecDepth 100000 in
theorem sg_191_c4 (b3 : Int) (m : jx_M) (Q : Int → jx_M → Prop) (hv :
    ((0 < 1) ∧
  jx_Cl 26 [xA 0 0] m (fun z1 m1 =>
      ((0 < 1) ∧
  jx_Cl 132 [xA 26 0] m1 (fun z2 m2 =>
        ((z1 = z2 →
          ((jx_in (b3 + 7)) ∧
  jx_AW 191 10 [some (xA 60 0), some (xA 0 0), some (xA 26 0), some (xI (b3 + 7))] [] m2 Q)) ∧
          (¬ (z1 = z2) →
          (((0 : Int) = 0 ∨ (0 : Int) = 1) ∧
  Q 0 m2)))))))) :
    jx_AW 191 174 [some (xA 60 0), some (xA 0 0), some (xA 26 0), some (xI b3)] [] m Q :=
  jx_segOk (x := 191) (cd := jx_c191) rfl (stops := [10]) 8 hv
set_option maxRecDepth 100000 in
theorem sg_191_c5 (b3 : Int) (m : jx_M) (Q : Int → jx_M → Prop) (hv :
    ((jx_in (b3 + 1)) ∧
  ((0 ≤ (b3 + 1) ∧ (b3 + 1) < m 61 0 0) ∧
  ((0 < 1) ∧
  jx_Cl 30 [xA 0 0, xI (m 60 0 ((b3 + 1).toNat))] m (fun z1 m1 =>
      ((jx_in (b3 + 1)) ∧
  ((0 ≤ (b3 + 1) ∧ (b3 + 1) < m1 61 0 0) ∧
  ((0 < 1) ∧
  jx_Cl 136 [xA 26 0, xI (m1 60 0 ((b3 + 1).toNat))] m1 (fun z2 m2 =>
        ((z1 = z2 →
          ((jx_in (b3 + 7)) ∧
  jx_AW 191 10 [some (xA 60 0), some (xA 0 0), some (xA 26 0), some (xI (b3 + 7))] [] m2 Q)) ∧
          (¬ (z1 = z2) →
          (((0 : Int) = 0 ∨ (0 : Int) = 1) ∧
  Q 0 m2)))))))))))) :
    jx_AW 191 181 [some (xA 60 0), some (xA 0 0), some (xA 26 0), some (xI b3)] [] m Q :=
  jx_segOk (x := 191) (cd := jx_c191) rfl (stops := [10]) 18 hv
set_option maxRecDepth 100000 in
theorem sg_191_c6 (b3 : Int) (m : jx_M) (Q : Int → jx_M → Prop) (hv :
    ((jx_in (b3 + 1)) ∧
  ((0 ≤ (b3 + 1) ∧ (b3 + 1) < m 61 0 0) ∧
  ((0 < 1) ∧
  jx_Cl 39 [xA 0 0, xI (m 60 0 ((b3 + 1).toNat))] m (fun z1 m1 =>
      ((jx_in (b3 + 1)) ∧
  ((0 ≤ (b3 + 1) ∧ (b3 + 1) < m1 61 0 0) ∧
  ((0 < 1) ∧
  jx_Cl 139 [xA 26 0, xI (m1 60 0 ((b3 + 1).toNat))] m1 (fun z2 m2 =>
        ((z1 = z2 →
          ((jx_in (b3 + 7)) ∧
  jx_AW 191 10 [some (xA 60 0), some (xA 0 0), some (xA 26 0), some (xI (b3 + 7))] [] m2 Q)) ∧
          (¬ (z1 = z2) →
          (((0 : Int) = 0 ∨ (0 : Int) = 1) ∧
  Q 0 m2)))))))))))) :
    jx_AW 191 198 [some (xA 60 0), some (xA 0 0), some (xA 26 0), some (xI b3)] [] m Q :=
  jx_segOk (x := 191) (cd := jx_c191) rfl (stops := [10]) 18 hv
set_option maxRecDepth 100000 in
theorem sg_191_c7 (b3 : Int) (m : jx_M) (Q : Int → jx_M → Prop) (hv :
    ((jx_in (b3 + 1)) ∧
  ((0 ≤ (b3 + 1) ∧ (b3 + 1) < m 61 0 0) ∧
  ((jx_in (b3 + 2)) ∧
  ((0 ≤ (b3 + 2) ∧ (b3 + 2) < m 61 0 0) ∧
  ((jx_in (b3 + 3)) ∧
  ((0 ≤ (b3 + 3) ∧ (b3 + 3) < m 61 0 0) ∧
  ((0 < 1) ∧
  jx_Cl 41 [xA 0 0, xI (m 60 0 ((b3 + 1).toNat)), xI (m 60 0 ((b3 + 2).toNat)), xI (m 60 0 ((b3 + 3).toNat))] m (fun z1 m1 =>
      ((jx_in (b3 + 1)) ∧
  ((0 ≤ (b3 + 1) ∧ (b3 + 1) < m1 61 0 0) ∧
  ((jx_in (b3 + 2)) ∧
  ((0 ≤ (b3 + 2) ∧ (b3 + 2) < m1 61 0 0) ∧
  ((jx_in (b3 + 3)) ∧
  ((0 ≤ (b3 + 3) ∧ (b3 + 3) < m1 61 0 0) ∧
  ((0 < 1) ∧
  jx_Cl 140 [xA 26 0, xI (m1 60 0 ((b3 + 1).toNat)), xI (m1 60 0 ((b3 + 2).toNat)), xI (m1 60 0 ((b3 + 3).toNat))] m1 (fun z2 m2 =>
        ((z1 = z2 →
          ((jx_in (b3 + 7)) ∧
  jx_AW 191 10 [some (xA 60 0), some (xA 0 0), some (xA 26 0), some (xI (b3 + 7))] [] m2 Q)) ∧
          (¬ (z1 = z2) →
          (((0 : Int) = 0 ∨ (0 : Int) = 1) ∧
  Q 0 m2)))))))))))))))))))) :
    jx_AW 191 215 [some (xA 60 0), some (xA 0 0), some (xA 26 0), some (xI b3)] [] m Q :=
  jx_segOk (x := 191) (cd := jx_c191) rfl (stops := [10]) 38 hv
set_option maxRecDepth 100000 in
theorem sg_191_c8 (b3 : Int) (m : jx_M) (Q : Int → jx_M → Prop) (hv :
    ((jx_in (b3 + 1)) ∧
  ((0 ≤ (b3 + 1) ∧ (b3 + 1) < m 61 0 0) ∧
  ((jx_in (b3 + 2)) ∧
  ((0 ≤ (b3 + 2) ∧ (b3 + 2) < m 61 0 0) ∧
  ((0 < 1) ∧
  jx_Cl 42 [xA 0 0, xI (m 60 0 ((b3 + 1).toNat)), xI (m 60 0 ((b3 + 2).toNat))] m (fun z1 m1 =>
      ((jx_in (b3 + 1)) ∧
  ((0 ≤ (b3 + 1) ∧ (b3 + 1) < m1 61 0 0) ∧
  ((jx_in (b3 + 2)) ∧
  ((0 ≤ (b3 + 2) ∧ (b3 + 2) < m1 61 0 0) ∧
  ((0 < 1) ∧
  jx_Cl 141 [xA 26 0, xI (m1 60 0 ((b3 + 1).toNat)), xI (m1 60 0 ((b3 + 2).toNat))] m1 (fun z2 m2 =>
        ((z1 = z2 →
          ((jx_in (b3 + 7)) ∧
  jx_AW 191 10 [some (xA 60 0), some (xA 0 0), some (xA 26 0), some (xI (b3 + 7))] [] m2 Q)) ∧
          (¬ (z1 = z2) →
          (((0 : Int) = 0 ∨ (0 : Int) = 1) ∧
  Q 0 m2)))))))))))))))) :
    jx_AW 191 252 [some (xA 60 0), some (xA 0 0), some (xA 26 0), some (xI b3)] [] m Q :=
  jx_segOk (x := 191) (cd := jx_c191) rfl (stops := [10]) 28 hv
set_option maxRecDepth 100000 in
theorem sg_191_c9 (b3 : Int) (m : jx_M) (Q : Int → jx_M → Prop) (hv :
    ((jx_in (b3 + 1)) ∧
  ((0 ≤ (b3 + 1) ∧ (b3 + 1) < m 61 0 0) ∧
  ((0 < 1) ∧
  jx_Cl 44 [xA 0 0, xI (m 60 0 ((b3 + 1).toNat))] m (fun z1 m1 =>
      ((jx_in (b3 + 1)) ∧
  ((0 ≤ (b3 + 1) ∧ (b3 + 1) < m1 61 0 0) ∧
  ((0 < 1) ∧
  jx_Cl 143 [xA 26 0, xI (m1 60 0 ((b3 + 1).toNat))] m1 (fun z2 m2 =>
        ((z1 = z2 →
          ((jx_in (b3 + 7)) ∧
  jx_AW 191 10 [some (xA 60 0), some (xA 0 0), some (xA 26 0), some (xI (b3 + 7))] [] m2 Q)) ∧
          (¬ (z1 = z2) →
          (((0 : Int) = 0 ∨ (0 : Int) = 1) ∧
  Q 0 m2)))))))))))) :
    jx_AW 191 279 [some (xA 60 0), some (xA 0 0), some (xA 26 0), some (xI b3)] [] m Q :=
  jx_segOk (x := 191) (cd := jx_c191) rfl (stops := [10]) 18 hv
set_option maxRecDepth 100000 in
theorem sg_191_c10 (b3 : Int) (m : jx_M) (Q : Int → jx_M → Prop) (hv :
    ((jx_in (b3 + 1)) ∧
  ((0 ≤ (b3 + 1) ∧ (b3 + 1) < m 61 0 0) ∧
  ((jx_in (b3 + 2)) ∧
  ((0 ≤ (b3 + 2) ∧ (b3 + 2) < m 61 0 0) ∧
  ((0 < 1) ∧
  jx_Cl 46 [xA 0 0, xI (m 60 0 ((b3 + 1).toNat)), xI (m 60 0 ((b3 + 2).toNat))] m (fun z1 m1 =>
      ((jx_in (b3 + 1)) ∧
  ((0 ≤ (b3 + 1) ∧ (b3 + 1) < m1 61 0 0) ∧
  ((jx_in (b3 + 2)) ∧
  ((0 ≤ (b3 + 2) ∧ (b3 + 2) < m1 61 0 0) ∧
  ((0 < 1) ∧
  jx_Cl 145 [xA 26 0, xI (m1 60 0 ((b3 + 1).toNat)), xI (m1 60 0 ((b3 + 2).toNat))] m1 (fun z2 m2 =>
        ((z1 = z2 →
          ((jx_in (b3 + 7)) ∧
  jx_AW 191 10 [some (xA 60 0), some (xA 0 0), some (xA 26 0), some (xI (b3 + 7))] [] m2 Q)) ∧
          (¬ (z1 = z2) →
          (((0 : Int) = 0 ∨ (0 : Int) = 1) ∧
  Q 0 m2)))))))))))))))) :
    jx_AW 191 296 [some (xA 60 0), some (xA 0 0), some (xA 26 0), some (xI b3)] [] m Q :=
  jx_segOk (x := 191) (cd := jx_c191) rfl (stops := [10]) 28 hv
set_option maxRecDepth 100000 in
theorem sg_191_c11 (b3 : Int) (m : jx_M) (Q : Int → jx_M → Prop) (hv :
    ((jx_in (b3 + 1)) ∧
  ((0 ≤ (b3 + 1) ∧ (b3 + 1) < m 61 0 0) ∧
  ((jx_in (b3 + 2)) ∧
  ((0 ≤ (b3 + 2) ∧ (b3 + 2) < m 61 0 0) ∧
  ((0 < 1) ∧
  jx_Cl 53 [xA 0 0, xI (m 60 0 ((b3 + 1).toNat)), xI (m 60 0 ((b3 + 2).toNat))] m (fun z1 m1 =>
      ((jx_in (b3 + 1)) ∧
  ((0 ≤ (b3 + 1) ∧ (b3 + 1) < m1 61 0 0) ∧
  ((jx_in (b3 + 2)) ∧
  ((0 ≤ (b3 + 2) ∧ (b3 + 2) < m1 61 0 0) ∧
  ((0 < 1) ∧
  jx_Cl 148 [xA 26 0, xI (m1 60 0 ((b3 + 1).toNat)), xI (m1 60 0 ((b3 + 2).toNat))] m1 (fun z2 m2 =>
        ((z1 = z2 →
          ((jx_in (b3 + 7)) ∧
  jx_AW 191 10 [some (xA 60 0), some (xA 0 0), some (xA 26 0), some (xI (b3 + 7))] [] m2 Q)) ∧
          (¬ (z1 = z2) →
          (((0 : Int) = 0 ∨ (0 : Int) = 1) ∧
  Q 0 m2)))))))))))))))) :
    jx_AW 191 323 [some (xA 60 0), some (xA 0 0), some (xA 26 0), some (xI b3)] [] m Q :=
  jx_segOk (x := 191) (cd := jx_c191) rfl (stops := [10]) 28 hv
set_option maxRecDepth 100000 in
theorem sg_191_c12 (b3 : Int) (m : jx_M) (Q : Int → jx_M → Prop) (hv :
    ((jx_in (b3 + 1)) ∧
  ((0 ≤ (b3 + 1) ∧ (b3 + 1) < m 61 0 0) ∧
  ((0 < 1) ∧
  jx_Cl 55 [xA 0 0, xI (m 60 0 ((b3 + 1).toNat))] m (fun z1 m1 =>
      ((jx_in (b3 + 1)) ∧
  ((0 ≤ (b3 + 1) ∧ (b3 + 1) < m1 61 0 0) ∧
  ((0 < 1) ∧
  jx_Cl 151 [xA 26 0, xI (m1 60 0 ((b3 + 1).toNat))] m1 (fun z2 m2 =>
        ((z1 = z2 →
          ((jx_in (b3 + 7)) ∧
  jx_AW 191 10 [some (xA 60 0), some (xA 0 0), some (xA 26 0), some (xI (b3 + 7))] [] m2 Q)) ∧
          (¬ (z1 = z2) →
          (((0 : Int) = 0 ∨ (0 : Int) = 1) ∧
  Q 0 m2)))))))))))) :
    jx_AW 191 350 [some (xA 60 0), some (xA 0 0), some (xA 26 0), some (xI b3)] [] m Q :=
  jx_segOk (x := 191) (cd := jx_c191) rfl (stops := [10]) 18 hv
set_option maxRecDepth 100000 in
theorem sg_191_c13 (b3 : Int) (m : jx_M) (Q : Int → jx_M → Prop) (hv :
    ((jx_in (b3 + 1)) ∧
  ((0 ≤ (b3 + 1) ∧ (b3 + 1) < m 61 0 0) ∧
  ((jx_in (b3 + 2)) ∧
  ((0 ≤ (b3 + 2) ∧ (b3 + 2) < m 61 0 0) ∧
  (((m 60 0 ((b3 + 2).toNat)) = 0 →
      ((0 < 1) ∧
  jx_Cl 56 [xA 0 0, xI (m 60 0 ((b3 + 1).toNat)), xI 0] m (fun z1 m1 =>
        ((jx_in (b3 + 1)) ∧
  ((0 ≤ (b3 + 1) ∧ (b3 + 1) < m1 61 0 0) ∧
  ((jx_in (b3 + 2)) ∧
  ((0 ≤ (b3 + 2) ∧ (b3 + 2) < m1 61 0 0) ∧
  (((m1 60 0 ((b3 + 2).toNat)) = 0 →
          ((0 < 1) ∧
  jx_Cl 152 [xA 26 0, xI (m1 60 0 ((b3 + 1).toNat)), xI 0] m1 (fun z2 m2 =>
            ((z1 = z2 →
              ((jx_in (b3 + 7)) ∧
  jx_AW 191 10 [some (xA 60 0), some (xA 0 0), some (xA 26 0), some (xI (b3 + 7))] [] m2 Q)) ∧
              (¬ (z1 = z2) →
              (((0 : Int) = 0 ∨ (0 : Int) = 1) ∧
  Q 0 m2)))))) ∧
          (¬ ((m1 60 0 ((b3 + 2).toNat)) = 0) →
          ((0 < 1) ∧
  jx_Cl 152 [xA 26 0, xI (m1 60 0 ((b3 + 1).toNat)), xI 1] m1 (fun z3 m3 =>
            ((z1 = z3 →
              ((jx_in (b3 + 7)) ∧
  jx_AW 191 10 [some (xA 60 0), some (xA 0 0), some (xA 26 0), some (xI (b3 + 7))] [] m3 Q)) ∧
              (¬ (z1 = z3) →
              (((0 : Int) = 0 ∨ (0 : Int) = 1) ∧
  Q 0 m3)))))))))))))) ∧
      (¬ ((m 60 0 ((b3 + 2).toNat)) = 0) →
      ((0 < 1) ∧
  jx_Cl 56 [xA 0 0, xI (m 60 0 ((b3 + 1).toNat)), xI 1] m (fun z4 m4 =>
        ((jx_in (b3 + 1)) ∧
  ((0 ≤ (b3 + 1) ∧ (b3 + 1) < m4 61 0 0) ∧
  ((jx_in (b3 + 2)) ∧
  ((0 ≤ (b3 + 2) ∧ (b3 + 2) < m4 61 0 0) ∧
  (((m4 60 0 ((b3 + 2).toNat)) = 0 →
          ((0 < 1) ∧
  jx_Cl 152 [xA 26 0, xI (m4 60 0 ((b3 + 1).toNat)), xI 0] m4 (fun z5 m5 =>
            ((z4 = z5 →
              ((jx_in (b3 + 7)) ∧
  jx_AW 191 10 [some (xA 60 0), some (xA 0 0), some (xA 26 0), some (xI (b3 + 7))] [] m5 Q)) ∧
              (¬ (z4 = z5) →
              (((0 : Int) = 0 ∨ (0 : Int) = 1) ∧
  Q 0 m5)))))) ∧
          (¬ ((m4 60 0 ((b3 + 2).toNat)) = 0) →
          ((0 < 1) ∧
  jx_Cl 152 [xA 26 0, xI (m4 60 0 ((b3 + 1).toNat)), xI 1] m4 (fun z6 m6 =>
            ((z4 = z6 →
              ((jx_in (b3 + 7)) ∧
  jx_AW 191 10 [some (xA 60 0), some (xA 0 0), some (xA 26 0), some (xI (b3 + 7))] [] m6 Q)) ∧
              (¬ (z4 = z6) →
              (((0 : Int) = 0 ∨ (0 : Int) = 1) ∧
  Q 0 m6)))))))))))))))))))) :
    jx_AW 191 367 [some (xA 60 0), some (xA 0 0), some (xA 26 0), some (xI b3)] [] m Q :=
  jx_segOk (x := 191) (cd := jx_c191) rfl (stops := [10]) 34 hv
set_option maxRecDepth 100000 in
theorem sg_191_c14 (b3 : Int) (m : jx_M) (Q : Int → jx_M → Prop) (hv :
    ((jx_in (b3 + 1)) ∧
  ((0 ≤ (b3 + 1) ∧ (b3 + 1) < m 61 0 0) ∧
  ((0 < 1) ∧
  jx_Cl 58 [xA 0 0, xI (m 60 0 ((b3 + 1).toNat))] m (fun z1 m1 =>
      ((jx_in (b3 + 1)) ∧
  ((0 ≤ (b3 + 1) ∧ (b3 + 1) < m1 61 0 0) ∧
  ((0 < 1) ∧
  jx_Cl 153 [xA 26 0, xI (m1 60 0 ((b3 + 1).toNat))] m1 (fun z2 m2 =>
        ((z1 = z2 →
          ((jx_in (b3 + 7)) ∧
  jx_AW 191 10 [some (xA 60 0), some (xA 0 0), some (xA 26 0), some (xI (b3 + 7))] [] m2 Q)) ∧
          (¬ (z1 = z2) →
          (((0 : Int) = 0 ∨ (0 : Int) = 1) ∧
  Q 0 m2)))))))))))) :
    jx_AW 191 402 [some (xA 60 0), some (xA 0 0), some (xA 26 0), some (xI b3)] [] m Q :=
  jx_segOk (x := 191) (cd := jx_c191) rfl (stops := [10]) 18 hv
set_option maxRecDepth 100000 in
theorem sg_191_c15 (b3 : Int) (m : jx_M) (Q : Int → jx_M → Prop) (hv :
    ((jx_in (b3 + 1)) ∧
  ((0 ≤ (b3 + 1) ∧ (b3 + 1) < m 61 0 0) ∧
  ((jx_in (b3 + 2)) ∧
  ((0 ≤ (b3 + 2) ∧ (b3 + 2) < m 61 0 0) ∧
  ((jx_in (b3 + 3)) ∧
  ((0 ≤ (b3 + 3) ∧ (b3 + 3) < m 61 0 0) ∧
  ((jx_in (b3 + 4)) ∧
  ((0 ≤ (b3 + 4) ∧ (b3 + 4) < m 61 0 0) ∧
  ((0 < 1) ∧
  jx_Cl 60 [xA 0 0, xI (m 60 0 ((b3 + 1).toNat)), xI (m 60 0 ((b3 + 2).toNat)), xI (m 60 0 ((b3 + 3).toNat)), xI (m 60 0 ((b3 + 4).toNat))] m (fun z1 m1 =>
      ((jx_in (b3 + 1)) ∧
  ((0 ≤ (b3 + 1) ∧ (b3 + 1) < m1 61 0 0) ∧
  ((jx_in (b3 + 2)) ∧
  ((0 ≤ (b3 + 2) ∧ (b3 + 2) < m1 61 0 0) ∧
  ((jx_in (b3 + 3)) ∧
  ((0 ≤ (b3 + 3) ∧ (b3 + 3) < m1 61 0 0) ∧
  ((jx_in (b3 + 4)) ∧
  ((0 ≤ (b3 + 4) ∧ (b3 + 4) < m1 61 0 0) ∧
  ((0 < 1) ∧
  jx_Cl 155 [xA 26 0, xI (m1 60 0 ((b3 + 1).toNat)), xI (m1 60 0 ((b3 + 2).toNat)), xI (m1 60 0 ((b3 + 3).toNat)), xI (m1 60 0 ((b3 + 4).toNat))] m1 (fun z2 m2 =>
        ((z1 = z2 →
          ((jx_in (b3 + 7)) ∧
  jx_AW 191 10 [some (xA 60 0), some (xA 0 0), some (xA 26 0), some (xI (b3 + 7))] [] m2 Q)) ∧
          (¬ (z1 = z2) →
          (((0 : Int) = 0 ∨ (0 : Int) = 1) ∧
  Q 0 m2)))))))))))))))))))))))) :
    jx_AW 191 419 [some (xA 60 0), some (xA 0 0), some (xA 26 0), some (xI b3)] [] m Q :=
  jx_segOk (x := 191) (cd := jx_c191) rfl (stops := [10]) 48 hv
set_option maxRecDepth 100000 in
theorem sg_191_c16 (b3 : Int) (m : jx_M) (Q : Int → jx_M → Prop) (hv :
    ((jx_in (b3 + 1)) ∧
  ((0 ≤ (b3 + 1) ∧ (b3 + 1) < m 61 0 0) ∧
  ((jx_in (b3 + 2)) ∧
  ((0 ≤ (b3 + 2) ∧ (b3 + 2) < m 61 0 0) ∧
  ((0 < 1) ∧
  jx_Cl 62 [xA 0 0, xI (m 60 0 ((b3 + 1).toNat)), xI (m 60 0 ((b3 + 2).toNat))] m (fun z1 m1 =>
      ((jx_in (b3 + 1)) ∧
  ((0 ≤ (b3 + 1) ∧ (b3 + 1) < m1 61 0 0) ∧
  ((jx_in (b3 + 2)) ∧
  ((0 ≤ (b3 + 2) ∧ (b3 + 2) < m1 61 0 0) ∧
  ((0 < 1) ∧
  jx_Cl 156 [xA 26 0, xI (m1 60 0 ((b3 + 1).toNat)), xI (m1 60 0 ((b3 + 2).toNat))] m1 (fun z2 m2 =>
        ((z1 = z2 →
          ((jx_in (b3 + 7)) ∧
  jx_AW 191 10 [some (xA 60 0), some (xA 0 0), some (xA 26 0), some (xI (b3 + 7))] [] m2 Q)) ∧
          (¬ (z1 = z2) →
          (((0 : Int) = 0 ∨ (0 : Int) = 1) ∧
  Q 0 m2)))))))))))))))) :
    jx_AW 191 466 [some (xA 60 0), some (xA 0 0), some (xA 26 0), some (xI b3)] [] m Q :=
  jx_segOk (x := 191) (cd := jx_c191) rfl (stops := [10]) 28 hv
set_option maxRecDepth 100000 in
theorem sg_191_c17 (b3 : Int) (m : jx_M) (Q : Int → jx_M → Prop) (hv :
    ((jx_in (b3 + 1)) ∧
  ((0 ≤ (b3 + 1) ∧ (b3 + 1) < m 61 0 0) ∧
  ((0 < 1) ∧
  jx_Cl 69 [xA 0 0, xI (m 60 0 ((b3 + 1).toNat))] m (fun z1 m1 =>
      ((jx_in (b3 + 1)) ∧
  ((0 ≤ (b3 + 1) ∧ (b3 + 1) < m1 61 0 0) ∧
  ((0 < 1) ∧
  jx_Cl 160 [xA 26 0, xI (m1 60 0 ((b3 + 1).toNat))] m1 (fun z2 m2 =>
        ((z1 = z2 →
          ((jx_in (b3 + 7)) ∧
  jx_AW 191 10 [some (xA 60 0), some (xA 0 0), some (xA 26 0), some (xI (b3 + 7))] [] m2 Q)) ∧
          (¬ (z1 = z2) →
          (((0 : Int) = 0 ∨ (0 : Int) = 1) ∧
  Q 0 m2)))))))))))) :
    jx_AW 191 493 [some (xA 60 0), some (xA 0 0), some (xA 26 0), some (xI b3)] [] m Q :=
  jx_segOk (x := 191) (cd := jx_c191) rfl (stops := [10]) 18 hv
set_option maxRecDepth 100000 in
theorem sg_191_c18 (b3 : Int) (m : jx_M) (Q : Int → jx_M → Prop) (hv :
    ((jx_in (b3 + 1)) ∧
  ((0 ≤ (b3 + 1) ∧ (b3 + 1) < m 61 0 0) ∧
  ((0 < 1) ∧
  jx_Cl 71 [xA 0 0, xI (m 60 0 ((b3 + 1).toNat))] m (fun z1 m1 =>
      ((jx_in (b3 + 1)) ∧
  ((0 ≤ (b3 + 1) ∧ (b3 + 1) < m1 61 0 0) ∧
  ((0 < 1) ∧
  jx_Cl 162 [xA 26 0, xI (m1 60 0 ((b3 + 1).toNat))] m1 (fun z2 m2 =>
        ((z1 = z2 →
          ((jx_in (b3 + 7)) ∧
  jx_AW 191 10 [some (xA 60 0), some (xA 0 0), some (xA 26 0), some (xI (b3 + 7))] [] m2 Q)) ∧
          (¬ (z1 = z2) →
          (((0 : Int) = 0 ∨ (0 : Int) = 1) ∧
  Q 0 m2)))))))))))) :
    jx_AW 191 510 [some (xA 60 0), some (xA 0 0), some (xA 26 0), some (xI b3)] [] m Q :=
  jx_segOk (x := 191) (cd := jx_c191) rfl (stops := [10]) 18 hv
set_option maxRecDepth 100000 in
theorem sg_191_c19 (b3 : Int) (m : jx_M) (Q : Int → jx_M → Prop) (hv :
    ((jx_in (b3 + 1)) ∧
  ((0 ≤ (b3 + 1) ∧ (b3 + 1) < m 61 0 0) ∧
  ((jx_in (b3 + 2)) ∧
  ((0 ≤ (b3 + 2) ∧ (b3 + 2) < m 61 0 0) ∧
  ((0 < 1) ∧
  jx_Cl 74 [xA 0 0, xI (m 60 0 ((b3 + 1).toNat)), xI (m 60 0 ((b3 + 2).toNat))] m (fun z1 m1 =>
      ((jx_in (b3 + 1)) ∧
  ((0 ≤ (b3 + 1) ∧ (b3 + 1) < m1 61 0 0) ∧
  ((jx_in (b3 + 2)) ∧
  ((0 ≤ (b3 + 2) ∧ (b3 + 2) < m1 61 0 0) ∧
  ((0 < 1) ∧
  jx_Cl 163 [xA 26 0, xI (m1 60 0 ((b3 + 1).toNat)), xI (m1 60 0 ((b3 + 2).toNat))] m1 (fun z2 m2 =>
        ((z1 = z2 →
          ((jx_in (b3 + 7)) ∧
  jx_AW 191 10 [some (xA 60 0), some (xA 0 0), some (xA 26 0), some (xI (b3 + 7))] [] m2 Q)) ∧
          (¬ (z1 = z2) →
          (((0 : Int) = 0 ∨ (0 : Int) = 1) ∧
  Q 0 m2)))))))))))))))) :
    jx_AW 191 527 [some (xA 60 0), some (xA 0 0), some (xA 26 0), some (xI b3)] [] m Q :=
  jx_segOk (x := 191) (cd := jx_c191) rfl (stops := [10]) 28 hv
set_option maxRecDepth 100000 in
theorem sg_191_c20 (b3 : Int) (m : jx_M) (Q : Int → jx_M → Prop) (hv :
    ((jx_in (b3 + 1)) ∧
  ((0 ≤ (b3 + 1) ∧ (b3 + 1) < m 61 0 0) ∧
  ((jx_in (b3 + 2)) ∧
  ((0 ≤ (b3 + 2) ∧ (b3 + 2) < m 61 0 0) ∧
  ((jx_in (b3 + 3)) ∧
  ((0 ≤ (b3 + 3) ∧ (b3 + 3) < m 61 0 0) ∧
  ((0 < 1) ∧
  jx_Cl 80 [xA 0 0, xI (m 60 0 ((b3 + 1).toNat)), xI (m 60 0 ((b3 + 2).toNat)), xI (m 60 0 ((b3 + 3).toNat))] m (fun z1 m1 =>
      ((jx_in (b3 + 1)) ∧
  ((0 ≤ (b3 + 1) ∧ (b3 + 1) < m1 61 0 0) ∧
  ((jx_in (b3 + 2)) ∧
  ((0 ≤ (b3 + 2) ∧ (b3 + 2) < m1 61 0 0) ∧
  ((jx_in (b3 + 3)) ∧
  ((0 ≤ (b3 + 3) ∧ (b3 + 3) < m1 61 0 0) ∧
  ((0 < 1) ∧
  jx_Cl 164 [xA 26 0, xI (m1 60 0 ((b3 + 1).toNat)), xI (m1 60 0 ((b3 + 2).toNat)), xI (m1 60 0 ((b3 + 3).toNat))] m1 (fun z2 m2 =>
        ((z1 = z2 →
          ((jx_in (b3 + 7)) ∧
  jx_AW 191 10 [some (xA 60 0), some (xA 0 0), some (xA 26 0), some (xI (b3 + 7))] [] m2 Q)) ∧
          (¬ (z1 = z2) →
          (((0 : Int) = 0 ∨ (0 : Int) = 1) ∧
  Q 0 m2)))))))))))))))))))) :
    jx_AW 191 554 [some (xA 60 0), some (xA 0 0), some (xA 26 0), some (xI b3)] [] m Q :=
  jx_segOk (x := 191) (cd := jx_c191) rfl (stops := [10]) 38 hv
set_option maxRecDepth 100000 in
theorem sg_191_c21 (b3 : Int) (m : jx_M) (Q : Int → jx_M → Prop) (hv :
    ((jx_in (b3 + 1)) ∧
  ((0 ≤ (b3 + 1) ∧ (b3 + 1) < m 61 0 0) ∧
  ((jx_in (b3 + 2)) ∧
  ((0 ≤ (b3 + 2) ∧ (b3 + 2) < m 61 0 0) ∧
  ((jx_in (b3 + 3)) ∧
  ((0 ≤ (b3 + 3) ∧ (b3 + 3) < m 61 0 0) ∧
  ((jx_in (b3 + 4)) ∧
  ((0 ≤ (b3 + 4) ∧ (b3 + 4) < m 61 0 0) ∧
  ((0 < 1) ∧
  jx_Cl 84 [xA 0 0, xI (m 60 0 ((b3 + 1).toNat)), xI (m 60 0 ((b3 + 2).toNat)), xI (m 60 0 ((b3 + 3).toNat)), xI (m 60 0 ((b3 + 4).toNat))] m (fun z1 m1 =>
      ((jx_in (b3 + 1)) ∧
  ((0 ≤ (b3 + 1) ∧ (b3 + 1) < m1 61 0 0) ∧
  ((jx_in (b3 + 2)) ∧
  ((0 ≤ (b3 + 2) ∧ (b3 + 2) < m1 61 0 0) ∧
  ((jx_in (b3 + 3)) ∧
  ((0 ≤ (b3 + 3) ∧ (b3 + 3) < m1 61 0 0) ∧
  ((jx_in (b3 + 4)) ∧
  ((0 ≤ (b3 + 4) ∧ (b3 + 4) < m1 61 0 0) ∧
  ((0 < 1) ∧
  jx_Cl 165 [xA 26 0, xI (m1 60 0 ((b3 + 1).toNat)), xI (m1 60 0 ((b3 + 2).toNat)), xI (m1 60 0 ((b3 + 3).toNat)), xI (m1 60 0 ((b3 + 4).toNat))] m1 (fun z2 m2 =>
        ((z1 = z2 →
          ((jx_in (b3 + 7)) ∧
  jx_AW 191 10 [some (xA 60 0), some (xA 0 0), some (xA 26 0), some (xI (b3 + 7))] [] m2 Q)) ∧
          (¬ (z1 = z2) →
          (((0 : Int) = 0 ∨ (0 : Int) = 1) ∧
  Q 0 m2)))))))))))))))))))))))) :
    jx_AW 191 591 [some (xA 60 0), some (xA 0 0), some (xA 26 0), some (xI b3)] [] m Q :=
  jx_segOk (x := 191) (cd := jx_c191) rfl (stops := [10]) 48 hv
set_option maxRecDepth 100000 in
theorem sg_191_c22 (b3 : Int) (m : jx_M) (Q : Int → jx_M → Prop) (hv :
    ((jx_in (b3 + 1)) ∧
  ((0 ≤ (b3 + 1) ∧ (b3 + 1) < m 61 0 0) ∧
  ((0 < 1) ∧
  jx_Cl 89 [xA 0 0, xI (m 60 0 ((b3 + 1).toNat))] m (fun z1 m1 =>
      ((jx_in (b3 + 1)) ∧
  ((0 ≤ (b3 + 1) ∧ (b3 + 1) < m1 61 0 0) ∧
  ((0 < 1) ∧
  jx_Cl 168 [xA 26 0, xI (m1 60 0 ((b3 + 1).toNat))] m1 (fun z2 m2 =>
        ((z1 = z2 →
          ((jx_in (b3 + 7)) ∧
  jx_AW 191 10 [some (xA 60 0), some (xA 0 0), some (xA 26 0), some (xI (b3 + 7))] [] m2 Q)) ∧
          (¬ (z1 = z2) →
          (((0 : Int) = 0 ∨ (0 : Int) = 1) ∧
  Q 0 m2)))))))))))) :
    jx_AW 191 638 [some (xA 60 0), some (xA 0 0), some (xA 26 0), some (xI b3)] [] m Q :=
  jx_segOk (x := 191) (cd := jx_c191) rfl (stops := [10]) 18 hv
set_option maxRecDepth 100000 in
theorem sg_191_c23 (b3 : Int) (m : jx_M) (Q : Int → jx_M → Prop) (hv :
    ((jx_in (b3 + 1)) ∧
  ((0 ≤ (b3 + 1) ∧ (b3 + 1) < m 61 0 0) ∧
  ((jx_in (b3 + 2)) ∧
  ((0 ≤ (b3 + 2) ∧ (b3 + 2) < m 61 0 0) ∧
  ((0 < 1) ∧
  jx_Cl 92 [xA 0 0, xI (m 60 0 ((b3 + 1).toNat)), xI (m 60 0 ((b3 + 2).toNat))] m (fun z1 m1 =>
      ((jx_in (b3 + 1)) ∧
  ((0 ≤ (b3 + 1) ∧ (b3 + 1) < m1 61 0 0) ∧
  ((jx_in (b3 + 2)) ∧
  ((0 ≤ (b3 + 2) ∧ (b3 + 2) < m1 61 0 0) ∧
  ((0 < 1) ∧
  jx_Cl 170 [xA 26 0, xI (m1 60 0 ((b3 + 1).toNat)), xI (m1 60 0 ((b3 + 2).toNat))] m1 (fun z2 m2 =>
        ((z1 = z2 →
          ((jx_in (b3 + 7)) ∧
  jx_AW 191 10 [some (xA 60 0), some (xA 0 0), some (xA 26 0), some (xI (b3 + 7))] [] m2 Q)) ∧
          (¬ (z1 = z2) →
          (((0 : Int) = 0 ∨ (0 : Int) = 1) ∧
  Q 0 m2)))))))))))))))) :
    jx_AW 191 655 [some (xA 60 0), some (xA 0 0), some (xA 26 0), some (xI b3)] [] m Q :=
  jx_segOk (x := 191) (cd := jx_c191) rfl (stops := [10]) 28 hv
set_option maxRecDepth 100000 in
theorem sg_191_c24 (b3 : Int) (m : jx_M) (Q : Int → jx_M → Prop) (hv :
    ((jx_in (b3 + 1)) ∧
  ((0 ≤ (b3 + 1) ∧ (b3 + 1) < m 61 0 0) ∧
  ((jx_in (b3 + 2)) ∧
  ((0 ≤ (b3 + 2) ∧ (b3 + 2) < m 61 0 0) ∧
  ((0 < 1) ∧
  jx_Cl 94 [xA 0 0, xI (m 60 0 ((b3 + 1).toNat)), xI (m 60 0 ((b3 + 2).toNat))] m (fun z1 m1 =>
      ((jx_in (b3 + 1)) ∧
  ((0 ≤ (b3 + 1) ∧ (b3 + 1) < m1 61 0 0) ∧
  ((jx_in (b3 + 2)) ∧
  ((0 ≤ (b3 + 2) ∧ (b3 + 2) < m1 61 0 0) ∧
  ((0 < 1) ∧
  jx_Cl 171 [xA 26 0, xI (m1 60 0 ((b3 + 1).toNat)), xI (m1 60 0 ((b3 + 2).toNat))] m1 (fun z2 m2 =>
        ((z1 = z2 →
          ((jx_in (b3 + 7)) ∧
  jx_AW 191 10 [some (xA 60 0), some (xA 0 0), some (xA 26 0), some (xI (b3 + 7))] [] m2 Q)) ∧
          (¬ (z1 = z2) →
          (((0 : Int) = 0 ∨ (0 : Int) = 1) ∧
  Q 0 m2)))))))))))))))) :
    jx_AW 191 682 [some (xA 60 0), some (xA 0 0), some (xA 26 0), some (xI b3)] [] m Q :=
  jx_segOk (x := 191) (cd := jx_c191) rfl (stops := [10]) 28 hv
set_option maxRecDepth 100000 in
theorem sg_191_c25 (b3 : Int) (m : jx_M) (Q : Int → jx_M → Prop) (hv :
    ((jx_in (b3 + 1)) ∧
  ((0 ≤ (b3 + 1) ∧ (b3 + 1) < m 61 0 0) ∧
  ((jx_in (b3 + 2)) ∧
  ((0 ≤ (b3 + 2) ∧ (b3 + 2) < m 61 0 0) ∧
  ((jx_in (b3 + 3)) ∧
  ((0 ≤ (b3 + 3) ∧ (b3 + 3) < m 61 0 0) ∧
  (((m 60 0 ((b3 + 3).toNat)) = 0 →
      ((0 < 1) ∧
  jx_Cl 96 [xA 0 0, xI (m 60 0 ((b3 + 1).toNat)), xI (m 60 0 ((b3 + 2).toNat)), xI 0] m (fun z1 m1 =>
        ((jx_in (b3 + 1)) ∧
  ((0 ≤ (b3 + 1) ∧ (b3 + 1) < m1 61 0 0) ∧
  ((jx_in (b3 + 2)) ∧
  ((0 ≤ (b3 + 2) ∧ (b3 + 2) < m1 61 0 0) ∧
  ((jx_in (b3 + 3)) ∧
  ((0 ≤ (b3 + 3) ∧ (b3 + 3) < m1 61 0 0) ∧
  (((m1 60 0 ((b3 + 3).toNat)) = 0 →
          ((0 < 1) ∧
  jx_Cl 172 [xA 26 0, xI (m1 60 0 ((b3 + 1).toNat)), xI (m1 60 0 ((b3 + 2).toNat)), xI 0] m1 (fun z2 m2 =>
            ((z1 = z2 →
              ((jx_in (b3 + 7)) ∧
  jx_AW 191 10 [some (xA 60 0), some (xA 0 0), some (xA 26 0), some (xI (b3 + 7))] [] m2 Q)) ∧
              (¬ (z1 = z2) →
              (((0 : Int) = 0 ∨ (0 : Int) = 1) ∧
  Q 0 m2)))))) ∧
          (¬ ((m1 60 0 ((b3 + 3).toNat)) = 0) →
          ((0 < 1) ∧
  jx_Cl 172 [xA 26 0, xI (m1 60 0 ((b3 + 1).toNat)), xI (m1 60 0 ((b3 + 2).toNat)), xI 1] m1 (fun z3 m3 =>
            ((z1 = z3 →
              ((jx_in (b3 + 7)) ∧
  jx_AW 191 10 [some (xA 60 0), some (xA 0 0), some (xA 26 0), some (xI (b3 + 7))] [] m3 Q)) ∧
              (¬ (z1 = z3) →
              (((0 : Int) = 0 ∨ (0 : Int) = 1) ∧
  Q 0 m3)))))))))))))))) ∧
      (¬ ((m 60 0 ((b3 + 3).toNat)) = 0) →
      ((0 < 1) ∧
  jx_Cl 96 [xA 0 0, xI (m 60 0 ((b3 + 1).toNat)), xI (m 60 0 ((b3 + 2).toNat)), xI 1] m (fun z4 m4 =>
        ((jx_in (b3 + 1)) ∧
  ((0 ≤ (b3 + 1) ∧ (b3 + 1) < m4 61 0 0) ∧
  ((jx_in (b3 + 2)) ∧
  ((0 ≤ (b3 + 2) ∧ (b3 + 2) < m4 61 0 0) ∧
  ((jx_in (b3 + 3)) ∧
  ((0 ≤ (b3 + 3) ∧ (b3 + 3) < m4 61 0 0) ∧
  (((m4 60 0 ((b3 + 3).toNat)) = 0 →
          ((0 < 1) ∧
  jx_Cl 172 [xA 26 0, xI (m4 60 0 ((b3 + 1).toNat)), xI (m4 60 0 ((b3 + 2).toNat)), xI 0] m4 (fun z5 m5 =>
            ((z4 = z5 →
              ((jx_in (b3 + 7)) ∧
  jx_AW 191 10 [some (xA 60 0), some (xA 0 0), some (xA 26 0), some (xI (b3 + 7))] [] m5 Q)) ∧
              (¬ (z4 = z5) →
              (((0 : Int) = 0 ∨ (0 : Int) = 1) ∧
  Q 0 m5)))))) ∧
          (¬ ((m4 60 0 ((b3 + 3).toNat)) = 0) →
          ((0 < 1) ∧
  jx_Cl 172 [xA 26 0, xI (m4 60 0 ((b3 + 1).toNat)), xI (m4 60 0 ((b3 + 2).toNat)), xI 1] m4 (fun z6 m6 =>
            ((z4 = z6 →
              ((jx_in (b3 + 7)) ∧
  jx_AW 191 10 [some (xA 60 0), some (xA 0 0), some (xA 26 0), some (xI (b3 + 7))] [] m6 Q)) ∧
              (¬ (z4 = z6) →
              (((0 : Int) = 0 ∨ (0 : Int) = 1) ∧
  Q 0 m6)))))))))))))))))))))))) :
    jx_AW 191 709 [some (xA 60 0), some (xA 0 0), some (xA 26 0), some (xI b3)] [] m Q :=
  jx_segOk (x := 191) (cd := jx_c191) rfl (stops := [10]) 44 hv
set_option maxRecDepth 100000 in
theorem sg_191_c26 (b3 : Int) (m : jx_M) (Q : Int → jx_M → Prop) (hv :
    ((jx_in (b3 + 1)) ∧
  ((0 ≤ (b3 + 1) ∧ (b3 + 1) < m 61 0 0) ∧
  ((jx_in (b3 + 2)) ∧
  ((0 ≤ (b3 + 2) ∧ (b3 + 2) < m 61 0 0) ∧
  ((0 < 1) ∧
  jx_Cl 97 [xA 0 0, xI (m 60 0 ((b3 + 1).toNat)), xI (m 60 0 ((b3 + 2).toNat))] m (fun z1 m1 =>
      ((jx_in (b3 + 1)) ∧
  ((0 ≤ (b3 + 1) ∧ (b3 + 1) < m1 61 0 0) ∧
  ((jx_in (b3 + 2)) ∧
  ((0 ≤ (b3 + 2) ∧ (b3 + 2) < m1 61 0 0) ∧
  ((0 < 1) ∧
  jx_Cl 173 [xA 26 0, xI (m1 60 0 ((b3 + 1).toNat)), xI (m1 60 0 ((b3 + 2).toNat))] m1 (fun z2 m2 =>
        ((z1 = z2 →
          ((jx_in (b3 + 7)) ∧
  jx_AW 191 10 [some (xA 60 0), some (xA 0 0), some (xA 26 0), some (xI (b3 + 7))] [] m2 Q)) ∧
          (¬ (z1 = z2) →
          (((0 : Int) = 0 ∨ (0 : Int) = 1) ∧
  Q 0 m2)))))))))))))))) :
    jx_AW 191 754 [some (xA 60 0), some (xA 0 0), some (xA 26 0), some (xI b3)] [] m Q :=
  jx_segOk (x := 191) (cd := jx_c191) rfl (stops := [10]) 28 hv
set_option maxRecDepth 100000 in
theorem sg_191_c27 (b3 : Int) (m : jx_M) (Q : Int → jx_M → Prop) (hv :
    ((0 < 1) ∧
  jx_Cl 100 [xA 0 0] m (fun z1 m1 =>
      ((0 < 1) ∧
  jx_Cl 174 [xA 26 0] m1 (fun z2 m2 =>
        ((z1 = z2 →
          ((jx_in (b3 + 7)) ∧
  jx_AW 191 10 [some (xA 60 0), some (xA 0 0), some (xA 26 0), some (xI (b3 + 7))] [] m2 Q)) ∧
          (¬ (z1 = z2) →
          (((0 : Int) = 0 ∨ (0 : Int) = 1) ∧
  Q 0 m2)))))))) :
    jx_AW 191 781 [some (xA 60 0), some (xA 0 0), some (xA 26 0), some (xI b3)] [] m Q :=
  jx_segOk (x := 191) (cd := jx_c191) rfl (stops := [10]) 8 hv
set_option maxRecDepth 100000 in
theorem sg_191_c28 (b3 : Int) (m : jx_M) (Q : Int → jx_M → Prop) (hv :
    ((jx_in (b3 + 1)) ∧
  ((0 ≤ (b3 + 1) ∧ (b3 + 1) < m 61 0 0) ∧
  ((jx_in (b3 + 2)) ∧
  ((0 ≤ (b3 + 2) ∧ (b3 + 2) < m 61 0 0) ∧
  ((0 < 1) ∧
  jx_Cl 101 [xA 0 0, xI (m 60 0 ((b3 + 1).toNat)), xI (m 60 0 ((b3 + 2).toNat))] m (fun z1 m1 =>
      ((jx_in (b3 + 1)) ∧
  ((0 ≤ (b3 + 1) ∧ (b3 + 1) < m1 61 0 0) ∧
  ((jx_in (b3 + 2)) ∧
  ((0 ≤ (b3 + 2) ∧ (b3 + 2) < m1 61 0 0) ∧
  ((0 < 1) ∧
  jx_Cl 175 [xA 26 0, xI (m1 60 0 ((b3 + 1).toNat)), xI (m1 60 0 ((b3 + 2).toNat))] m1 (fun z2 m2 =>
        ((z1 = z2 →
          ((jx_in (b3 + 7)) ∧
  jx_AW 191 10 [some (xA 60 0), some (xA 0 0), some (xA 26 0), some (xI (b3 + 7))] [] m2 Q)) ∧
          (¬ (z1 = z2) →
          (((0 : Int) = 0 ∨ (0 : Int) = 1) ∧
  Q 0 m2)))))))))))))))) :
    jx_AW 191 788 [some (xA 60 0), some (xA 0 0), some (xA 26 0), some (xI b3)] [] m Q :=
  jx_segOk (x := 191) (cd := jx_c191) rfl (stops := [10]) 28 hv
set_option maxRecDepth 100000 in
theorem sg_191_c29 (b3 : Int) (m : jx_M) (Q : Int → jx_M → Prop) (hv :
    ((jx_in (b3 + 1)) ∧
  ((0 ≤ (b3 + 1) ∧ (b3 + 1) < m 61 0 0) ∧
  ((jx_in (b3 + 2)) ∧
  ((0 ≤ (b3 + 2) ∧ (b3 + 2) < m 61 0 0) ∧
  ((0 < 1) ∧
  jx_Cl 103 [xA 0 0, xI (m 60 0 ((b3 + 1).toNat)), xI (m 60 0 ((b3 + 2).toNat))] m (fun z1 m1 =>
      ((jx_in (b3 + 1)) ∧
  ((0 ≤ (b3 + 1) ∧ (b3 + 1) < m1 61 0 0) ∧
  ((jx_in (b3 + 2)) ∧
  ((0 ≤ (b3 + 2) ∧ (b3 + 2) < m1 61 0 0) ∧
  ((0 < 1) ∧
  jx_Cl 177 [xA 26 0, xI (m1 60 0 ((b3 + 1).toNat)), xI (m1 60 0 ((b3 + 2).toNat))] m1 (fun z2 m2 =>
        ((z1 = z2 →
          ((jx_in (b3 + 7)) ∧
  jx_AW 191 10 [some (xA 60 0), some (xA 0 0), some (xA 26 0), some (xI (b3 + 7))] [] m2 Q)) ∧
          (¬ (z1 = z2) →
          (((0 : Int) = 0 ∨ (0 : Int) = 1) ∧
  Q 0 m2)))))))))))))))) :
    jx_AW 191 815 [some (xA 60 0), some (xA 0 0), some (xA 26 0), some (xI b3)] [] m Q :=
  jx_segOk (x := 191) (cd := jx_c191) rfl (stops := [10]) 28 hv
set_option maxRecDepth 100000 in
theorem sg_191_c30 (b3 : Int) (m : jx_M) (Q : Int → jx_M → Prop) (hv :
    ((0 < 1) ∧
  jx_Cl 104 [xA 0 0] m (fun z1 m1 =>
      ((0 < 1) ∧
  jx_Cl 178 [xA 26 0] m1 (fun z2 m2 =>
        ((z1 = z2 →
          ((jx_in (b3 + 7)) ∧
  jx_AW 191 10 [some (xA 60 0), some (xA 0 0), some (xA 26 0), some (xI (b3 + 7))] [] m2 Q)) ∧
          (¬ (z1 = z2) →
          (((0 : Int) = 0 ∨ (0 : Int) = 1) ∧
  Q 0 m2)))))))) :
    jx_AW 191 842 [some (xA 60 0), some (xA 0 0), some (xA 26 0), some (xI b3)] [] m Q :=
  jx_segOk (x := 191) (cd := jx_c191) rfl (stops := [10]) 8 hv
set_option maxRecDepth 100000 in
theorem sg_191_c31 (b3 : Int) (m : jx_M) (Q : Int → jx_M → Prop) (hv :
    ((0 < 1) ∧
  jx_Cl 105 [xA 0 0] m (fun z1 m1 =>
      ((0 < 1) ∧
  jx_Cl 180 [xA 26 0] m1 (fun z2 m2 =>
        ((z1 = z2 →
          ((jx_in (b3 + 7)) ∧
  jx_AW 191 10 [some (xA 60 0), some (xA 0 0), some (xA 26 0), some (xI (b3 + 7))] [] m2 Q)) ∧
          (¬ (z1 = z2) →
          (((0 : Int) = 0 ∨ (0 : Int) = 1) ∧
  Q 0 m2)))))))) :
    jx_AW 191 849 [some (xA 60 0), some (xA 0 0), some (xA 26 0), some (xI b3)] [] m Q :=
  jx_segOk (x := 191) (cd := jx_c191) rfl (stops := [10]) 8 hv
set_option maxRecDepth 100000 in
theorem sg_191_c32 (b3 : Int) (m : jx_M) (Q : Int → jx_M → Prop) (hv :
    ((jx_in (b3 + 1)) ∧
  ((0 ≤ (b3 + 1) ∧ (b3 + 1) < m 61 0 0) ∧
  ((jx_in (b3 + 2)) ∧
  ((0 ≤ (b3 + 2) ∧ (b3 + 2) < m 61 0 0) ∧
  ((jx_in (b3 + 3)) ∧
  ((0 ≤ (b3 + 3) ∧ (b3 + 3) < m 61 0 0) ∧
  ((jx_in (b3 + 4)) ∧
  ((0 ≤ (b3 + 4) ∧ (b3 + 4) < m 61 0 0) ∧
  ((jx_in (b3 + 5)) ∧
  ((0 ≤ (b3 + 5) ∧ (b3 + 5) < m 61 0 0) ∧
  ((jx_in (b3 + 6)) ∧
  ((0 ≤ (b3 + 6) ∧ (b3 + 6) < m 61 0 0) ∧
  ((0 < 1) ∧
  jx_Cl 106 [xA 0 0, xI (m 60 0 ((b3 + 1).toNat)), xI (m 60 0 ((b3 + 2).toNat)), xI (m 60 0 ((b3 + 3).toNat)), xI (m 60 0 ((b3 + 4).toNat)), xI (m 60 0 ((b3 + 5).toNat)), xI (m 60 0 ((b3 + 6).toNat))] m (fun z1 m1 =>
      ((jx_in (b3 + 1)) ∧
  ((0 ≤ (b3 + 1) ∧ (b3 + 1) < m1 61 0 0) ∧
  ((jx_in (b3 + 2)) ∧
  ((0 ≤ (b3 + 2) ∧ (b3 + 2) < m1 61 0 0) ∧
  ((jx_in (b3 + 3)) ∧
  ((0 ≤ (b3 + 3) ∧ (b3 + 3) < m1 61 0 0) ∧
  ((jx_in (b3 + 4)) ∧
  ((0 ≤ (b3 + 4) ∧ (b3 + 4) < m1 61 0 0) ∧
  ((jx_in (b3 + 5)) ∧
  ((0 ≤ (b3 + 5) ∧ (b3 + 5) < m1 61 0 0) ∧
  ((jx_in (b3 + 6)) ∧
  ((0 ≤ (b3 + 6) ∧ (b3 + 6) < m1 61 0 0) ∧
  ((0 < 1) ∧
  jx_Cl 182 [xA 26 0, xI (m1 60 0 ((b3 + 1).toNat)), xI (m1 60 0 ((b3 + 2).toNat)), xI (m1 60 0 ((b3 + 3).toNat)), xI (m1 60 0 ((b3 + 4).toNat)), xI (m1 60 0 ((b3 + 5).toNat)), xI (m1 60 0 ((b3 + 6).toNat))] m1 (fun z2 m2 =>
        ((z1 = z2 →
          ((jx_in (b3 + 7)) ∧
  jx_AW 191 10 [some (xA 60 0), some (xA 0 0), some (xA 26 0), some (xI (b3 + 7))] [] m2 Q)) ∧
          (¬ (z1 = z2) →
          (((0 : Int) = 0 ∨ (0 : Int) = 1) ∧
  Q 0 m2)))))))))))))))))))))))))))))))) :
    jx_AW 191 856 [some (xA 60 0), some (xA 0 0), some (xA 26 0), some (xI b3)] [] m Q :=
  jx_segOk (x := 191) (cd := jx_c191) rfl (stops := [10]) 68 hv
set_option maxRecDepth 100000 in
theorem sg_191_c33 (b3 : Int) (m : jx_M) (Q : Int → jx_M → Prop) (hv :
    ((jx_in (b3 + 1)) ∧
  ((0 ≤ (b3 + 1) ∧ (b3 + 1) < m 61 0 0) ∧
  ((jx_in (b3 + 2)) ∧
  ((0 ≤ (b3 + 2) ∧ (b3 + 2) < m 61 0 0) ∧
  ((jx_in (b3 + 3)) ∧
  ((0 ≤ (b3 + 3) ∧ (b3 + 3) < m 61 0 0) ∧
  ((jx_in (b3 + 4)) ∧
  ((0 ≤ (b3 + 4) ∧ (b3 + 4) < m 61 0 0) ∧
  ((jx_in (b3 + 5)) ∧
  ((0 ≤ (b3 + 5) ∧ (b3 + 5) < m 61 0 0) ∧
  ((jx_in (b3 + 6)) ∧
  ((0 ≤ (b3 + 6) ∧ (b3 + 6) < m 61 0 0) ∧
  ((0 < 1) ∧
  jx_Cl 113 [xA 0 0, xI (m 60 0 ((b3 + 1).toNat)), xI (m 60 0 ((b3 + 2).toNat)), xI (m 60 0 ((b3 + 3).toNat)), xI (m 60 0 ((b3 + 4).toNat)), xI (m 60 0 ((b3 + 5).toNat)), xI (m 60 0 ((b3 + 6).toNat))] m (fun z1 m1 =>
      ((jx_in (b3 + 1)) ∧
  ((0 ≤ (b3 + 1) ∧ (b3 + 1) < m1 61 0 0) ∧
  ((jx_in (b3 + 2)) ∧
  ((0 ≤ (b3 + 2) ∧ (b3 + 2) < m1 61 0 0) ∧
  ((jx_in (b3 + 3)) ∧
  ((0 ≤ (b3 + 3) ∧ (b3 + 3) < m1 61 0 0) ∧
  ((jx_in (b3 + 4)) ∧
  ((0 ≤ (b3 + 4) ∧ (b3 + 4) < m1 61 0 0) ∧
  ((jx_in (b3 + 5)) ∧
  ((0 ≤ (b3 + 5) ∧ (b3 + 5) < m1 61 0 0) ∧
  ((jx_in (b3 + 6)) ∧
  ((0 ≤ (b3 + 6) ∧ (b3 + 6) < m1 61 0 0) ∧
  ((0 < 1) ∧
  jx_Cl 186 [xA 26 0, xI (m1 60 0 ((b3 + 1).toNat)), xI (m1 60 0 ((b3 + 2).toNat)), xI (m1 60 0 ((b3 + 3).toNat)), xI (m1 60 0 ((b3 + 4).toNat)), xI (m1 60 0 ((b3 + 5).toNat)), xI (m1 60 0 ((b3 + 6).toNat))] m1 (fun z2 m2 =>
        ((z1 = z2 →
          ((jx_in (b3 + 7)) ∧
  jx_AW 191 10 [some (xA 60 0), some (xA 0 0), some (xA 26 0), some (xI (b3 + 7))] [] m2 Q)) ∧
          (¬ (z1 = z2) →
          (((0 : Int) = 0 ∨ (0 : Int) = 1) ∧
  Q 0 m2)))))))))))))))))))))))))))))))) :
    jx_AW 191 923 [some (xA 60 0), some (xA 0 0), some (xA 26 0), some (xI b3)] [] m Q :=
  jx_segOk (x := 191) (cd := jx_c191) rfl (stops := [10]) 68 hv
set_option maxRecDepth 100000 in
theorem sg_191_c34 (b3 : Int) (m : jx_M) (Q : Int → jx_M → Prop) (hv :
    ((jx_in (b3 + 1)) ∧
  ((0 ≤ (b3 + 1) ∧ (b3 + 1) < m 61 0 0) ∧
  ((jx_in (b3 + 2)) ∧
  ((0 ≤ (b3 + 2) ∧ (b3 + 2) < m 61 0 0) ∧
  ((jx_in (b3 + 3)) ∧
  ((0 ≤ (b3 + 3) ∧ (b3 + 3) < m 61 0 0) ∧
  ((0 < 1) ∧
  jx_Cl 116 [xA 0 0, xI (m 60 0 ((b3 + 1).toNat)), xI (m 60 0 ((b3 + 2).toNat)), xI (m 60 0 ((b3 + 3).toNat))] m (fun z1 m1 =>
      ((jx_in (b3 + 1)) ∧
  ((0 ≤ (b3 + 1) ∧ (b3 + 1) < m1 61 0 0) ∧
  ((jx_in (b3 + 2)) ∧
  ((0 ≤ (b3 + 2) ∧ (b3 + 2) < m1 61 0 0) ∧
  ((jx_in (b3 + 3)) ∧
  ((0 ≤ (b3 + 3) ∧ (b3 + 3) < m1 61 0 0) ∧
  ((0 < 1) ∧
  jx_Cl 187 [xA 26 0, xI (m1 60 0 ((b3 + 1).toNat)), xI (m1 60 0 ((b3 + 2).toNat)), xI (m1 60 0 ((b3 + 3).toNat))] m1 (fun z2 m2 =>
        ((z1 = z2 →
          ((jx_in (b3 + 7)) ∧
  jx_AW 191 10 [some (xA 60 0), some (xA 0 0), some (xA 26 0), some (xI (b3 + 7))] [] m2 Q)) ∧
          (¬ (z1 = z2) →
          (((0 : Int) = 0 ∨ (0 : Int) = 1) ∧
  Q 0 m2)))))))))))))))))))) :
    jx_AW 191 990 [some (xA 60 0), some (xA 0 0), some (xA 26 0), some (xI b3)] [] m Q :=
  jx_segOk (x := 191) (cd := jx_c191) rfl (stops := [10]) 38 hv
set_option maxRecDepth 100000 in
theorem sg_191_c35 (b3 : Int) (m : jx_M) (Q : Int → jx_M → Prop) (hv :
    ((jx_in (b3 + 1)) ∧
  ((0 ≤ (b3 + 1) ∧ (b3 + 1) < m 61 0 0) ∧
  ((0 < 1) ∧
  jx_Cl 118 [xA 0 0, xI (m 60 0 ((b3 + 1).toNat))] m (fun z1 m1 =>
      ((jx_in (b3 + 1)) ∧
  ((0 ≤ (b3 + 1) ∧ (b3 + 1) < m1 61 0 0) ∧
  ((0 < 1) ∧
  jx_Cl 188 [xA 26 0, xI (m1 60 0 ((b3 + 1).toNat))] m1 (fun z2 m2 =>
        ((z1 = z2 →
          ((jx_in (b3 + 7)) ∧
  jx_AW 191 10 [some (xA 60 0), some (xA 0 0), some (xA 26 0), some (xI (b3 + 7))] [] m2 Q)) ∧
          (¬ (z1 = z2) →
          (((0 : Int) = 0 ∨ (0 : Int) = 1) ∧
  Q 0 m2)))))))))))) :
    jx_AW 191 1027 [some (xA 60 0), some (xA 0 0), some (xA 26 0), some (xI b3)] [] m Q :=
  jx_segOk (x := 191) (cd := jx_c191) rfl (stops := [10]) 18 hv
set_option maxRecDepth 100000 in
theorem sg_191_c36 (b3 : Int) (m : jx_M) (Q : Int → jx_M → Prop) (hv :
    ((jx_in (b3 + 1)) ∧
  ((0 ≤ (b3 + 1) ∧ (b3 + 1) < m 61 0 0) ∧
  ((jx_in (b3 + 2)) ∧
  ((0 ≤ (b3 + 2) ∧ (b3 + 2) < m 61 0 0) ∧
  ((jx_in (b3 + 3)) ∧
  ((0 ≤ (b3 + 3) ∧ (b3 + 3) < m 61 0 0) ∧
  ((jx_in (b3 + 4)) ∧
  ((0 ≤ (b3 + 4) ∧ (b3 + 4) < m 61 0 0) ∧
  ((0 < 1) ∧
  jx_Cl 119 [xA 0 0, xI (m 60 0 ((b3 + 1).toNat)), xI (m 60 0 ((b3 + 2).toNat)), xI (m 60 0 ((b3 + 3).toNat)), xI (m 60 0 ((b3 + 4).toNat))] m (fun z1 m1 =>
      ((jx_in (b3 + 1)) ∧
  ((0 ≤ (b3 + 1) ∧ (b3 + 1) < m1 61 0 0) ∧
  ((jx_in (b3 + 2)) ∧
  ((0 ≤ (b3 + 2) ∧ (b3 + 2) < m1 61 0 0) ∧
  ((jx_in (b3 + 3)) ∧
  ((0 ≤ (b3 + 3) ∧ (b3 + 3) < m1 61 0 0) ∧
  ((jx_in (b3 + 4)) ∧
  ((0 ≤ (b3 + 4) ∧ (b3 + 4) < m1 61 0 0) ∧
  ((0 < 1) ∧
  jx_Cl 189 [xA 26 0, xI (m1 60 0 ((b3 + 1).toNat)), xI (m1 60 0 ((b3 + 2).toNat)), xI (m1 60 0 ((b3 + 3).toNat)), xI (m1 60 0 ((b3 + 4).toNat))] m1 (fun z2 m2 =>
        ((z1 = z2 →
          ((jx_in (b3 + 7)) ∧
  jx_AW 191 10 [some (xA 60 0), some (xA 0 0), some (xA 26 0), some (xI (b3 + 7))] [] m2 Q)) ∧
          (¬ (z1 = z2) →
          (((0 : Int) = 0 ∨ (0 : Int) = 1) ∧
  Q 0 m2)))))))))))))))))))))))) :
    jx_AW 191 1044 [some (xA 60 0), some (xA 0 0), some (xA 26 0), some (xI b3)] [] m Q :=
  jx_segOk (x := 191) (cd := jx_c191) rfl (stops := [10]) 48 hv
set_option maxRecDepth 100000 in
theorem sg_191_c37 (b3 : Int) (m : jx_M) (Q : Int → jx_M → Prop) (hv :
    ((jx_in (b3 + 1)) ∧
  ((0 ≤ (b3 + 1) ∧ (b3 + 1) < m 61 0 0) ∧
  ((jx_in (b3 + 2)) ∧
  ((0 ≤ (b3 + 2) ∧ (b3 + 2) < m 61 0 0) ∧
  ((jx_in (b3 + 3)) ∧
  ((0 ≤ (b3 + 3) ∧ (b3 + 3) < m 61 0 0) ∧
  ((jx_in (b3 + 4)) ∧
  ((0 ≤ (b3 + 4) ∧ (b3 + 4) < m 61 0 0) ∧
  ((jx_in (b3 + 5)) ∧
  ((0 ≤ (b3 + 5) ∧ (b3 + 5) < m 61 0 0) ∧
  ((0 < 1) ∧
  jx_Cl 121 [xA 0 0, xI (m 60 0 ((b3 + 1).toNat)), xI (m 60 0 ((b3 + 2).toNat)), xI (m 60 0 ((b3 + 3).toNat)), xI (m 60 0 ((b3 + 4).toNat)), xI (m 60 0 ((b3 + 5).toNat))] m (fun z1 m1 =>
      ((jx_in (b3 + 1)) ∧
  ((0 ≤ (b3 + 1) ∧ (b3 + 1) < m1 61 0 0) ∧
  ((jx_in (b3 + 2)) ∧
  ((0 ≤ (b3 + 2) ∧ (b3 + 2) < m1 61 0 0) ∧
  ((jx_in (b3 + 3)) ∧
  ((0 ≤ (b3 + 3) ∧ (b3 + 3) < m1 61 0 0) ∧
  ((jx_in (b3 + 4)) ∧
  ((0 ≤ (b3 + 4) ∧ (b3 + 4) < m1 61 0 0) ∧
  ((jx_in (b3 + 5)) ∧
  ((0 ≤ (b3 + 5) ∧ (b3 + 5) < m1 61 0 0) ∧
  ((0 < 1) ∧
  jx_Cl 190 [xA 26 0, xI (m1 60 0 ((b3 + 1).toNat)), xI (m1 60 0 ((b3 + 2).toNat)), xI (m1 60 0 ((b3 + 3).toNat)), xI (m1 60 0 ((b3 + 4).toNat)), xI (m1 60 0 ((b3 + 5).toNat))] m1 (fun z2 m2 =>
        ((z1 = z2 →
          ((jx_in (b3 + 7)) ∧
  jx_AW 191 10 [some (xA 60 0), some (xA 0 0), some (xA 26 0), some (xI (b3 + 7))] [] m2 Q)) ∧
          (¬ (z1 = z2) →
          (((0 : Int) = 0 ∨ (0 : Int) = 1) ∧
  Q 0 m2)))))))))))))))))))))))))))) :
    jx_AW 191 1091 [some (xA 60 0), some (xA 0 0), some (xA 26 0), some (xI b3)] [] m Q :=
  jx_segOk (x := 191) (cd := jx_c191) rfl (stops := [10]) 58 hv
